/-! counting and sorting: what took asks of both sides -/
def tk_cnt (p : Int32 → Bool) (f : Nat → Int32) : Nat → Nat
  | 0 => 0
  | n + 1 => tk_cnt p f n + (if p (f n) = true then 1 else 0)
theorem tk_s (p : Int32 → Bool) (f : Nat → Int32) (n : Nat) : tk_cnt p f (n + 1) = tk_cnt p f n + (if p (f n) = true then 1 else 0) := rfl
theorem tk_st {p : Int32 → Bool} {f : Nat → Int32} {n : Nat} (h : p (f n) = true) : tk_cnt p f (n + 1) = tk_cnt p f n + 1 := by
  rw [tk_s, if_pos h]
theorem tk_sf {p : Int32 → Bool} {f : Nat → Int32} {n : Nat} (h : p (f n) = false) : tk_cnt p f (n + 1) = tk_cnt p f n := by
  rw [tk_s, if_neg (by rw [h]; exact Bool.false_ne_true)]; rfl
theorem tk_le (p : Int32 → Bool) (f : Nat → Int32) : ∀ n, tk_cnt p f n ≤ n := by
  intro n
  induction n with
  | zero => exact Nat.le_refl _
  | succ n ih =>
    cases h : p (f n) with
    | true => rw [tk_st h]; omega
    | false => rw [tk_sf h]; omega
theorem tk_small {p : Int32 → Bool} {f : Nat → Int32} {k : Nat} : ∀ n, (∀ j, k ≤ j → j < n → p (f j) = false) → tk_cnt p f n ≤ k := by
  intro n
  induction n with
  | zero => intro _; exact Nat.zero_le _
  | succ n ih =>
    intro h
    by_cases hk : k ≤ n
    · rw [tk_sf (h n hk (by omega))]
      exact ih (fun j a b => h j a (by omega))
    · have := tk_le p f (n + 1)
      omega
theorem tk_big {p : Int32 → Bool} {f : Nat → Int32} : ∀ n m, m ≤ n → (∀ j, j < m → p (f j) = true) → m ≤ tk_cnt p f n := by
  intro n
  induction n with
  | zero => intro m h _; exact h
  | succ n ih =>
    intro m h hp
    by_cases e : m = n + 1
    · have a := ih n (Nat.le_refl _) (fun j hj => hp j (by omega))
      rw [tk_st (hp n (by omega))]
      omega
    · have a := ih m (by omega) hp
      have b : tk_cnt p f n ≤ tk_cnt p f (n + 1) := by rw [tk_s]; omega
      omega
theorem tk_cong {p : Int32 → Bool} {f g : Nat → Int32} : ∀ n, (∀ j, j < n → f j = g j) → tk_cnt p f n = tk_cnt p g n := by
  intro n
  induction n with
  | zero => intro _; rfl
  | succ n ih => intro h; rw [tk_s, tk_s, ih (fun j hj => h j (by omega)), h n (by omega)]
theorem tk_occ {p : Int32 → Bool} {f : Nat → Int32} {m : Nat} : ∀ n, m < tk_cnt p f n → ∃ i, i < n ∧ p (f i) = true ∧ tk_cnt p f i = m := by
  intro n
  induction n with
  | zero => intro h; exact absurd h (Nat.not_lt_zero _)
  | succ n ih =>
    intro h
    cases e : p (f n) with
    | true =>
      rw [tk_st e] at h
      by_cases hm : m < tk_cnt p f n
      · obtain ⟨i, hi, a, b⟩ := ih hm
        exact ⟨i, by omega, a, b⟩
      · exact ⟨n, by omega, e, by omega⟩
    | false =>
      rw [tk_sf e] at h
      obtain ⟨i, hi, a, b⟩ := ih h
      exact ⟨i, by omega, a, b⟩
theorem tk_ins {p : Int32 → Bool} {s s' : Nat → Int32} {v : Int32} {j : Nat} (h1 : ∀ a, a < j → s' a = s a) (h2 : s' j = v) :
    ∀ i, j ≤ i → (∀ a, j < a → a ≤ i → s' a = s (a - 1)) → tk_cnt p s' (i + 1) = tk_cnt p s i + (if p v = true then 1 else 0) := by
  intro i
  induction i with
  | zero =>
    intro hj _
    have e : j = 0 := by omega
    subst e
    rw [tk_s, h2]; rfl
  | succ i ih =>
    intro hj h3
    by_cases e : j = i + 1
    · subst e
      rw [tk_s, h2, tk_cong (i + 1) h1]
    · rw [tk_s, ih (by omega) (fun a x y => h3 a x (by omega)), h3 (i + 1) (by omega) (Nat.le_refl _), Nat.add_sub_cancel, tk_s]
      omega
def tk_rk (t : Nat → Int32) (i : Nat) : Nat → Nat
  | 0 => 0
  | j + 1 => tk_rk t i j + (if t j < t i ∨ (t j = t i ∧ j < i) then 1 else 0)
theorem tk_rk_s (t : Nat → Int32) (i n : Nat) : tk_rk t i (n + 1) = tk_rk t i n + (if t n < t i ∨ (t n = t i ∧ n < i) then 1 else 0) := rfl
theorem tk_rk_le (t : Nat → Int32) (i : Nat) : ∀ n, tk_rk t i n ≤ n := by
  intro n
  induction n with
  | zero => exact Nat.le_refl _
  | succ n ih => rw [tk_rk_s]; split <;> omega
def tk_lt (v : Int32) : Int32 → Bool := fun x => decide (x < v)
def tk_eq (v : Int32) : Int32 → Bool := fun x => decide (x = v)
def tk_lq (v : Int32) : Int32 → Bool := fun x => decide (x ≤ v)
theorem tk_rk_eq (t : Nat → Int32) (i : Nat) : ∀ n, tk_rk t i n = tk_cnt (tk_lt (t i)) t n + tk_cnt (tk_eq (t i)) t (min i n) := by
  intro n
  induction n with
  | zero => rw [Nat.min_zero]; rfl
  | succ n ih =>
    by_cases hn : n < i
    · have e1 : min i n = n := by omega
      have e2 : min i (n + 1) = n + 1 := by omega
      rw [e1] at ih
      rw [e2, tk_rk_s, ih]
      by_cases a : t n < t i
      · have b : ¬ t n = t i := fun e => by rw [e] at a; exact Int32.lt_irrefl a
        rw [tk_st (p := tk_lt (t i)) (decide_eq_true a), tk_sf (p := tk_eq (t i)) (decide_eq_false b), if_pos (Or.inl a)]
        omega
      · by_cases b : t n = t i
        · rw [tk_sf (p := tk_lt (t i)) (decide_eq_false a), tk_st (p := tk_eq (t i)) (decide_eq_true b), if_pos (Or.inr ⟨b, hn⟩)]
          omega
        · rw [tk_sf (p := tk_lt (t i)) (decide_eq_false a), tk_sf (p := tk_eq (t i)) (decide_eq_false b), if_neg (fun z => z.elim a (fun z => b z.1))]
          omega
    · have e1 : min i n = i := by omega
      have e2 : min i (n + 1) = i := by omega
      rw [e1] at ih
      rw [e2, tk_rk_s, ih]
      by_cases a : t n < t i
      · rw [tk_st (p := tk_lt (t i)) (decide_eq_true a), if_pos (Or.inl a)]
        omega
      · rw [tk_sf (p := tk_lt (t i)) (decide_eq_false a), if_neg (fun z => z.elim a (fun z => hn z.2))]
        omega
theorem tk_lq_eq (v : Int32) (t : Nat → Int32) : ∀ n, tk_cnt (tk_lq v) t n = tk_cnt (tk_lt v) t n + tk_cnt (tk_eq v) t n := by
  intro n
  induction n with
  | zero => rfl
  | succ n ih =>
    by_cases a : t n < v
    · have b : ¬ t n = v := fun e => by rw [e] at a; exact Int32.lt_irrefl a
      rw [tk_st (p := tk_lt v) (decide_eq_true a), tk_sf (p := tk_eq v) (decide_eq_false b), tk_st (p := tk_lq v) (decide_eq_true (Int32.le_of_lt a)), ih]
      omega
    · by_cases b : t n = v
      · rw [tk_sf (p := tk_lt v) (decide_eq_false a), tk_st (p := tk_eq v) (decide_eq_true b), tk_st (p := tk_lq v) (decide_eq_true (by rw [b]; exact Int32.le_rfl)), ih]
        omega
      · rw [tk_sf (p := tk_lt v) (decide_eq_false a), tk_sf (p := tk_eq v) (decide_eq_false b), tk_sf (p := tk_lq v) (decide_eq_false (fun z => a (Int32.lt_of_le_of_ne z b))), ih]
/-- s holds the first i of t, sorted -/
def tk_St (t : Nat → Int32) (i : Nat) (s : Nat → Int32) : Prop := (∀ a b, a ≤ b → b < i → s a ≤ s b) ∧ ∀ p, tk_cnt p s i = tk_cnt p t i
theorem tk_St0 (t s : Nat → Int32) : tk_St t 0 s := ⟨fun _ _ _ h => absurd h (Nat.not_lt_zero _), fun _ => rfl⟩
theorem tk_step {t s s' : Nat → Int32} {i j : Nat} {v : Int32} (h : tk_St t i s) (hv : t i = v) (hj : j ≤ i) (h1 : ∀ a, a < j → s' a = s a) (h2 : s' j = v)
    (h3 : ∀ a, j < a → a ≤ i → s' a = s (a - 1)) (h4 : ∀ a, j ≤ a → a < i → v < s a) (h5 : j = 0 ∨ ¬ v < s (j - 1)) : tk_St t (i + 1) s' := by
  refine ⟨fun a b hab hb => ?_, fun p => ?_⟩
  · by_cases b1 : b < j
    · rw [h1 a (by omega), h1 b b1]
      exact h.1 a b hab (by omega)
    · by_cases b2 : b = j
      · subst b2
        rw [h2]
        by_cases a2 : a = b
        · rw [a2, h2]; exact Int32.le_rfl
        · rw [h1 a (by omega)]
          rcases h5 with h5 | h5
          · omega
          · exact Int32.le_trans (h.1 a (b - 1) (by omega) (by omega)) (Int32.not_lt.mp h5)
      · rw [h3 b (by omega) (by omega)]
        by_cases a1 : a < j
        · rw [h1 a a1]; exact h.1 a (b - 1) (by omega) (by omega)
        · by_cases a2 : a = j
          · rw [a2, h2]; exact Int32.le_of_lt (h4 (b - 1) (by omega) (by omega))
          · rw [h3 a (by omega) (by omega)]; exact h.1 (a - 1) (b - 1) (by omega) (by omega)
  · rw [tk_ins h1 h2 i hj h3, h.2 p, tk_s, hv]
theorem tk_uniq {t s : Nat → Int32} {n k i : Nat} (h : tk_St t n s) (hi : i < n) (hk : k < n) (e : tk_rk t i n = k) : t i = s k := by
  rw [tk_rk_eq, Nat.min_eq_left (by omega)] at e
  have e2 : tk_cnt (tk_eq (t i)) t i < tk_cnt (tk_eq (t i)) t n := by
    have a : tk_cnt (tk_eq (t i)) t (i + 1) = tk_cnt (tk_eq (t i)) t i + 1 := tk_st (p := tk_eq (t i)) (decide_eq_true rfl)
    have b : ∀ d, tk_cnt (tk_eq (t i)) t (i + 1) ≤ tk_cnt (tk_eq (t i)) t (i + 1 + d) := by
      intro d
      induction d with
      | zero => exact Nat.le_refl _
      | succ d ih => rw [← Nat.add_assoc, tk_s (tk_eq (t i)) t (i + 1 + d)]; omega
    have c := b (n - (i + 1))
    rw [show i + 1 + (n - (i + 1)) = n from by omega] at c
    omega
  have e3 := tk_lq_eq (t i) t n
  have l1 := h.2 (tk_lt (t i))
  have l2 := h.2 (tk_lq (t i))
  by_cases a : s k < t i
  · have b : k + 1 ≤ tk_cnt (tk_lt (t i)) s n := tk_big n (k + 1) hk (fun j hj => decide_eq_true (Int32.lt_of_le_of_lt (h.1 j k (by omega) hk) a))
    omega
  · by_cases c : t i < s k
    · have b : tk_cnt (tk_lq (t i)) s n ≤ k := tk_small n (fun j h1 h2 => decide_eq_false (fun z => Int32.lt_irrefl (Int32.lt_of_lt_of_le c (Int32.le_trans (h.1 k j h1 h2) z))))
      omega
    · exact Int32.le_antisymm (Int32.not_lt.mp a) (Int32.not_lt.mp c)
theorem tk_ex {t s : Nat → Int32} {n k : Nat} (h : tk_St t n s) (hk : k < n) : ∃ i, i < n ∧ tk_rk t i n = k := by
  have a : tk_cnt (tk_lt (s k)) s n ≤ k := tk_small n (fun j h1 h2 => decide_eq_false (fun z => Int32.lt_irrefl (Int32.lt_of_lt_of_le z (h.1 k j h1 h2))))
  have b : k + 1 ≤ tk_cnt (tk_lq (s k)) s n := tk_big n (k + 1) hk (fun j hj => decide_eq_true (h.1 j k (by omega) hk))
  have c := tk_lq_eq (s k) t n
  have l1 := h.2 (tk_lt (s k))
  have l2 := h.2 (tk_lq (s k))
  obtain ⟨i, hi, hp, hc⟩ := tk_occ (p := tk_eq (s k)) (f := t) (m := k - tk_cnt (tk_lt (s k)) t n) n (by omega)
  have e : t i = s k := of_decide_eq_true hp
  refine ⟨i, hi, ?_⟩
  rw [tk_rk_eq, Nat.min_eq_left (by omega), e, hc]
  omega
/-! how many of the first n slots run at s -/
def rn_cnt (st a : Nat → Int32) (s : Int32) : Nat → Nat
  | 0 => 0
  | q + 1 => rn_cnt st a s q + (if st q = 1 ∧ a q = s then 1 else 0)
theorem rn_s (st a : Nat → Int32) (s : Int32) (n : Nat) : rn_cnt st a s (n + 1) = rn_cnt st a s n + (if st n = 1 ∧ a n = s then 1 else 0) := rfl
theorem rn_le (st a : Nat → Int32) (s : Int32) : ∀ n, rn_cnt st a s n ≤ n := by
  intro n
  induction n with
  | zero => exact Nat.le_refl _
  | succ n ih => rw [rn_s]; split <;> omega
theorem rn_cong {st a st' a' : Nat → Int32} {s : Int32} : ∀ n, (∀ j, j < n → st j = st' j ∧ a j = a' j) → rn_cnt st a s n = rn_cnt st' a' s n := by
  intro n
  induction n with
  | zero => intro _; rfl
  | succ n ih => intro h; rw [rn_s, rn_s, ih (fun j hj => h j (by omega)), (h n (by omega)).1, (h n (by omega)).2]
theorem rn_upd {st a : Nat → Int32} {s w b : Int32} {q : Nat} : ∀ n, q < n →
    rn_cnt (upd st q w) (upd a q b) s n + (if st q = 1 ∧ a q = s then 1 else 0) = rn_cnt st a s n + (if w = 1 ∧ b = s then 1 else 0) := by
  intro n
  induction n with
  | zero => intro h; omega
  | succ n ih =>
    intro h
    rw [rn_s, rn_s]
    by_cases e : q = n
    · subst e
      rw [pk_us, pk_us, rn_cong (st' := st) (a' := a) q (fun j hj => ⟨pk_un (by omega), pk_un (by omega)⟩)]
      omega
    · rw [pk_un (by omega), pk_un (by omega)]
      have := ih (by omega)
      omega
theorem ud_same {f : Nat → Int32} {k : Nat} : upd f k (f k) = f := by
  funext j
  unfold upd
  split
  · next h => rw [h]
  · rfl
theorem ud_ud {f : Nat → Int32} {k : Nat} {x y : Int32} : upd (upd f k x) k y = upd f k y := by
  funext j
  unfold upd
  split <;> rfl
/-! masks of six bits -/
def mk_m (b : Nat → Bool) : Nat → Int32
  | 0 => 0
  | i + 1 => if b i = true then mk_m b i ||| ((1 : Int32) <<< (nI i &&& 31)) else mk_m b i
def mk_f (b0 b1 b2 b3 b4 b5 : Bool) (j : Nat) : Bool := match j with
  | 0 => b0
  | 1 => b1
  | 2 => b2
  | 3 => b3
  | 4 => b4
  | _ => b5
theorem mk_key : ∀ b0 b1 b2 b3 b4 b5 : Bool, ∀ s : Fin 6, ((mk_m (mk_f b0 b1 b2 b3 b4 b5) 6 >>> (nI s.val &&& 31)) &&& 1) = if mk_f b0 b1 b2 b3 b4 b5 s.val = true then 1 else 0 := by
  decide +kernel
theorem mk_fb (b : Nat → Bool) {s : Nat} (h : s < 6) : mk_f (b 0) (b 1) (b 2) (b 3) (b 4) (b 5) s = b s := by
  match s, h with
  | 0, _ => rfl
  | 1, _ => rfl
  | 2, _ => rfl
  | 3, _ => rfl
  | 4, _ => rfl
  | 5, _ => rfl
theorem mk_cong {b c : Nat → Bool} : ∀ n, (∀ j, j < n → b j = c j) → mk_m b n = mk_m c n := by
  intro n
  induction n with
  | zero => intro _; rfl
  | succ n ih =>
    intro h
    show (if b n = true then mk_m b n ||| ((1 : Int32) <<< (nI n &&& 31)) else mk_m b n) = (if c n = true then mk_m c n ||| ((1 : Int32) <<< (nI n &&& 31)) else mk_m c n)
    rw [ih (fun j hj => h j (by omega)), h n (by omega)]
theorem mk_bit (b : Nat → Bool) {s : Nat} (h : s < 6) : ((mk_m b 6 >>> (nI s &&& 31)) &&& 1) = if b s = true then 1 else 0 := by
  have e := mk_key (b 0) (b 1) (b 2) (b 3) (b 4) (b 5) ⟨s, h⟩
  rw [mk_fb b h, mk_cong 6 (fun j hj => mk_fb b hj)] at e
  exact e
theorem mk_z : ∀ s : Fin 6, (((0 : Int32) >>> (nI s.val &&& 31)) &&& 1) = 0 := by decide +kernel
theorem mk_0 {b : Nat → Bool} : mk_m b 6 = 0 ↔ ∀ s, s < 6 → b s = false := by
  constructor
  · intro h s hs
    have e := mk_bit b hs
    rw [h, mk_z ⟨s, hs⟩] at e
    cases hb : b s with
    | false => rfl
    | true => rw [hb] at e; exact absurd e (by decide)
  · intro h
    rw [mk_cong (c := fun _ => false) 6 h]
    rfl
theorem mk_1 (x : Int32) : x &&& 1 = 0 ∨ x &&& 1 = 1 := by
  obtain ⟨j, hj, e⟩ := pk_andE x (m := 1) 1 (by decide)
  match j, hj with
  | 0, _ => exact Or.inl e
  | 1, _ => exact Or.inr e
/-! points on the ring -/
def rg_P (s j : Nat) : Nat := (s * 37 + j * 101 + 17) * 59
def rg_D (key s j : Nat) : Nat := (rg_P s j - key) % 256
theorem rg_pt (s j : Nat) : (nI s * 37 + nI j * 101 + 17) * 59 = nI (rg_P s j) := by
  show (nI s * nI 37 + nI j * nI 101 + nI 17) * nI 59 = _
  rw [pk_mul, pk_mul, nI_add, nI_add, pk_mul]
  rfl
theorem rg_lo (s j : Nat) : 1003 ≤ rg_P s j := by unfold rg_P; omega
theorem rg_hi {s j : Nat} (hs : s < 6) (hj : j < 10) : rg_P s j < 100000 := by unfold rg_P; omega
theorem rg_dx {s j key : Nat} (hs : s < 6) (hj : j < 10) (hk : key < 256) : (nI (rg_P s j) - nI key) &&& 255 = nI (rg_D key s j) := by
  have a := rg_lo s j
  have b := rg_hi hs hj
  rw [pk_sub (by omega), pk_andN (by omega) 8 (by decide)]
  rfl
theorem rg_D_lt (key s j : Nat) : rg_D key s j < 256 := Nat.mod_lt _ (by decide)
theorem rg_m {s j key k : Nat} (hk : key < 256) (h : k < 256) : rg_P s j % 256 = (key + k) % 256 ↔ rg_D key s j = k := by
  have a := rg_lo s j
  unfold rg_D
  generalize rg_P s j = P at a ⊢
  omega
/-- c at distance d is the choice among the servers below S -/
def rg_B (b : Nat → Bool) (w : Nat → Nat) (key S : Nat) (c : Int32) (d : Nat) : Prop :=
  d ≤ 256 ∧ (∀ s, s < S → b s = true → ∀ j, j < w s → d ≤ rg_D key s j) ∧ (d = 256 → c = -1) ∧
  (d < 256 → ∃ e, e < S ∧ c = nI e ∧ b e = true ∧ (∃ j, j < w e ∧ rg_D key e j = d) ∧ ∀ s, s < e → b s = true → ∀ j, j < w s → d < rg_D key s j)
/-- .. among those below S and the first m points of S itself -/
def rg_I (b : Nat → Bool) (w : Nat → Nat) (key S m : Nat) (c : Int32) (d : Nat) : Prop :=
  d ≤ 256 ∧ (∀ s, s < S → b s = true → ∀ j, j < w s → d ≤ rg_D key s j) ∧ (∀ j, j < m → d ≤ rg_D key S j) ∧ (d = 256 → c = -1) ∧
  (d < 256 → ∃ e, e < S + 1 ∧ c = nI e ∧ b e = true ∧ (∃ j, j < w e ∧ rg_D key e j = d) ∧ ∀ s, s < e → b s = true → ∀ j, j < w s → d < rg_D key s j)
theorem rg_B0 (b : Nat → Bool) (w : Nat → Nat) (key : Nat) : rg_B b w key 0 (-1) 256 :=
  ⟨Nat.le_refl _, fun _ h => absurd h (Nat.not_lt_zero _), fun _ => rfl, fun h => absurd h (Nat.lt_irrefl _)⟩
theorem rg_skip {b : Nat → Bool} {w : Nat → Nat} {key S d : Nat} {c : Int32} (h : rg_B b w key S c d) (hb : b S = false) : rg_B b w key (S + 1) c d := by
  obtain ⟨h1, h2, h3, h4⟩ := h
  refine ⟨h1, fun s hs bs => ?_, h3, fun hd => ?_⟩
  · by_cases e : s = S
    · rw [e, hb] at bs; exact absurd bs Bool.false_ne_true
    · exact h2 s (by omega) bs
  · obtain ⟨e, he, r⟩ := h4 hd
    exact ⟨e, by omega, r⟩
theorem rg_in {b : Nat → Bool} {w : Nat → Nat} {key S d : Nat} {c : Int32} (h : rg_B b w key S c d) : rg_I b w key S 0 c d := by
  obtain ⟨h1, h2, h3, h4⟩ := h
  refine ⟨h1, h2, fun _ h => absurd h (Nat.not_lt_zero _), h3, fun hd => ?_⟩
  obtain ⟨e, he, r⟩ := h4 hd
  exact ⟨e, by omega, r⟩
theorem rg_out {b : Nat → Bool} {w : Nat → Nat} {key S d : Nat} {c : Int32} (h : rg_I b w key S (w S) c d) : rg_B b w key (S + 1) c d := by
  obtain ⟨h1, h2, h3, h4, h5⟩ := h
  refine ⟨h1, fun s hs bs => ?_, h4, h5⟩
  by_cases e : s = S
  · rw [e]; exact h3
  · exact h2 s (by omega) bs
theorem rg_no {b : Nat → Bool} {w : Nat → Nat} {key S m d : Nat} {c : Int32} (h : rg_I b w key S m c d) (hd : d ≤ rg_D key S m) : rg_I b w key S (m + 1) c d := by
  obtain ⟨h1, h2, h3, h4, h5⟩ := h
  refine ⟨h1, h2, fun j hj => ?_, h4, h5⟩
  by_cases e : j = m
  · rw [e]; exact hd
  · exact h3 j (by omega)
theorem rg_yes {b : Nat → Bool} {w : Nat → Nat} {key S m d : Nat} {c : Int32} (h : rg_I b w key S m c d) (hb : b S = true) (hm : m < w S) (hd : rg_D key S m < d) : rg_I b w key S (m + 1) (nI S) (rg_D key S m) := by
  obtain ⟨h1, h2, h3, h4, h5⟩ := h
  have hl := rg_D_lt key S m
  refine ⟨by omega, fun s hs bs j hj => ?_, fun j hj => ?_, fun e => by omega, fun _ => ⟨S, by omega, rfl, hb, ⟨m, hm, rfl⟩, fun s hs bs j hj => ?_⟩⟩
  · have := h2 s hs bs j hj; omega
  · by_cases e : j = m
    · rw [e]; exact Nat.le_refl _
    · have := h3 j (by omega); omega
  · have := h2 s hs bs j hj; omega
