section
theorem pk_us {f : Nat → Int32} {k : Nat} {x : Int32} : upd f k x k = x := if_pos rfl
theorem pk_un {f : Nat → Int32} {k j : Nat} {x : Int32} (h : j ≠ k) : upd f k x j = f j := if_neg h
theorem pk_uLs {f : Nat → Int64} {k : Nat} {x : Int64} : vp_updL f k x k = x := if_pos rfl
theorem pk_uLn {f : Nat → Int64} {k j : Nat} {x : Int64} (h : j ≠ k) : vp_updL f k x j = f j := if_neg h
theorem pk_sub {a b : Nat} (h : b ≤ a) : nI a - nI b = nI (a - b) := by
  obtain ⟨c, rfl⟩ : ∃ c, a = c + b := ⟨a - b, by omega⟩
  rw [← nI_add, Int32.add_sub_cancel, Nat.add_sub_cancel]
theorem pk_m1 (n : Nat) : nI (n + 1) + (-1) = nI n := by
  rw [← nI_1, Int32.add_assoc, show (1 : Int32) + (-1) = 0 from rfl, Int32.add_zero]
theorem pk_mul (a b : Nat) : nI a * nI b = nI (a * b) := (Int32.ofNat_mul a b).symm
theorem pk_div {a d : Nat} (ha : a < 2 ^ 31) (h0 : 0 < d) (hd : d < 2 ^ 31) : nI a / nI d = nI (a / d) := by
  apply Int32.toInt_inj.mp
  rw [lg_idiv_nonneg (by rw [nI_toInt ha]; omega) (by rw [nI_toInt hd]; omega), nI_toInt ha, nI_toInt hd, nI_toInt (Nat.lt_of_le_of_lt (Nat.div_le_self a d) ha)]
  first | rfl | exact (Int.natCast_ediv _ _).symm
theorem pk_rem {a d : Nat} (ha : a < 2 ^ 31) (h0 : 0 < d) (hd : d < 2 ^ 31) : nI a - nI a / nI d * nI d = nI (a % d) := by
  rw [pk_div ha h0 hd, pk_mul, pk_sub (Nat.div_mul_le_self a d)]
  exact congrArg nI (by have := Nat.div_add_mod' a d; omega)
theorem pk_sub_toInt {a b : Nat} (ha : a < 2 ^ 30) (hb : b < 2 ^ 30) : (nI a - nI b).toInt = (a : Int) - b := by
  rw [Int32.toInt_sub, nI_toInt (by omega), nI_toInt (by omega)]
  exact Int.bmod_eq_of_le (by omega) (by omega)
theorem pk_sneg {a b : Nat} (hb : b < 2 ^ 30) (h : a < b) : nI a - nI b < 0 := by
  rw [Int32.lt_iff_toInt_lt, pk_sub_toInt (by omega) hb, show (0 : Int32).toInt = 0 from by decide]
  omega
theorem pk_ix (x : Int32) {n : Nat} (hn : n < 2 ^ 31) : x < 0 ∨ nI n ≤ x ∨ ∃ j : Nat, j < n ∧ x = nI j := by
  by_cases h : x < 0
  · exact Or.inl h
  · obtain ⟨j, hj, rfl⟩ := nI_of h
    by_cases h2 : j < n
    · exact Or.inr (Or.inr ⟨j, h2, rfl⟩)
    · exact Or.inr (Or.inl (nI_le (by omega) hj))
theorem pk_le {x y : Int32} {A B : Prop} (a b : Nat) (f : a ≤ b → A) (g : b < a → B) (hx : x = nI a := by rfl) (hy : y = nI b := by rfl) (ha : a < 2 ^ 31 := by omega) (hb : b < 2 ^ 31 := by omega) : (x ≤ y → A) ∧ (¬ x ≤ y → B) := by
  subst hx hy
  rw [nI_leI ha hb]
  exact ⟨f, fun z => g (by omega)⟩
theorem pk_lt {x y : Int32} {A B : Prop} (a b : Nat) (f : a < b → A) (g : b ≤ a → B) (hx : x = nI a := by rfl) (hy : y = nI b := by rfl) (ha : a < 2 ^ 31 := by omega) (hb : b < 2 ^ 31 := by omega) : (x < y → A) ∧ (¬ x < y → B) := by
  subst hx hy
  rw [nI_ltI ha hb]
  exact ⟨f, fun z => g (by omega)⟩
theorem pk_eq {x y : Int32} {A B : Prop} (a b : Nat) (f : a = b → A) (g : a ≠ b → B) (hx : x = nI a := by rfl) (hy : y = nI b := by rfl) (ha : a < 2 ^ 31 := by omega) (hb : b < 2 ^ 31 := by omega) : (x = y → A) ∧ (¬ x = y → B) := by
  subst hx hy
  rw [nI_eq ha hb]
  exact ⟨f, g⟩
theorem pk_in {x : Int32} (n N : Nat) (h : n < N) (hx : x = nI n := by rfl) (hN : N < 2 ^ 31 := by omega) : vp_in x N := by
  subst hx
  exact vp_in_nI h hN
theorem pk_cl {x : Int32} (n : Nat) (hx : x = nI n := by rfl) (h : n < 2 ^ 31 := by omega) : x.toNatClampNeg = n := by
  subst hx
  exact nI_clamp h
theorem pk_tn {n : Nat} (h : n < 2 ^ 32) : (nI n).toBitVec.toNat = n := Nat.mod_eq_of_lt h
theorem pk_and (x : Int32) {m : Int32} (k : Nat) (hm : m.toBitVec.toNat = 2 ^ k - 1) : x &&& m = nI (x.toBitVec.toNat % 2 ^ k) := by
  apply Int32.toBitVec_inj.mp
  apply BitVec.eq_of_toNat_eq
  rw [Int32.toBitVec_and, BitVec.toNat_and, hm, Nat.and_two_pow_sub_one_eq_mod]
  show _ = (BitVec.ofNat 32 _).toNat
  rw [BitVec.toNat_ofNat]
  exact (Nat.mod_eq_of_lt (Nat.lt_of_le_of_lt (Nat.mod_le _ _) x.toBitVec.isLt)).symm
theorem pk_andN {n : Nat} (h : n < 2 ^ 32) {m : Int32} (k : Nat) (hm : m.toBitVec.toNat = 2 ^ k - 1) : nI n &&& m = nI (n % 2 ^ k) := by
  rw [pk_and _ k hm, pk_tn h]
theorem pk_andE (x : Int32) {m : Int32} (k : Nat) (hm : m.toBitVec.toNat = 2 ^ k - 1) : ∃ j : Nat, j < 2 ^ k ∧ x &&& m = nI j := ⟨_, Nat.mod_lt _ (Nat.two_pow_pos k), pk_and x k hm⟩
theorem pk_andIn (x : Int32) {m : Int32} (k : Nat) (hm : m.toBitVec.toNat = 2 ^ k - 1) (hk : k ≤ 30) : vp_in (x &&& m) (2 ^ k) := by
  obtain ⟨j, hj, e⟩ := pk_andE x k hm
  rw [e]
  exact vp_in_nI hj (Nat.lt_of_le_of_lt (Nat.pow_le_pow_right (by decide) hk) (by decide))
theorem pk_shl (a s : Int32) (k : Nat) (hs : (s.toBitVec.smod 32).toNat = k) : (a <<< s).toBitVec.toNat = a.toBitVec.toNat * 2 ^ k % 2 ^ 32 := by
  show (a.toBitVec <<< (s.toBitVec.smod 32).toNat).toNat = _
  rw [hs, BitVec.toNat_shiftLeft, Nat.shiftLeft_eq]
theorem pk_shlN {n : Nat} (s : Int32) (k : Nat) (hs : (s.toBitVec.smod 32).toNat = k) (h : n * 2 ^ k < 2 ^ 32) : nI n <<< s = nI (n * 2 ^ k) := by
  apply Int32.toBitVec_inj.mp
  apply BitVec.eq_of_toNat_eq
  have hn : n < 2 ^ 32 := Nat.lt_of_le_of_lt (Nat.le_mul_of_pos_right n (Nat.two_pow_pos k)) h
  rw [pk_shl _ _ k hs, pk_tn hn, pk_tn h, Nat.mod_eq_of_lt h]
theorem pk_shr (a s : Int32) (k : Nat) (hs : (s.toBitVec.smod 32).toNat = k) : (a >>> s).toInt = a.toInt >>> k := by
  show (a.toBitVec.sshiftRight (s.toBitVec.smod 32).toNat).toInt = _
  rw [hs, BitVec.toInt_sshiftRight]
  rfl
theorem pk_shrN {n : Nat} (h : n < 2 ^ 31) (s : Int32) (k : Nat) (hs : (s.toBitVec.smod 32).toNat = k) : nI n >>> s = nI (n / 2 ^ k) := by
  apply Int32.toInt_inj.mp
  have h2 : n / 2 ^ k ≤ n := Nat.div_le_self _ _
  rw [pk_shr _ _ k hs, nI_toInt h, nI_toInt (by omega), Int.shiftRight_eq_div_pow]
  rfl
theorem pk_lT {n : Nat} (h : n < 2 ^ 63) : (lN n).toInt = (n : Int) := lg_ofNat_toInt h
theorem pk_lLT {a b : Nat} (ha : a < 2 ^ 63) (hb : b < 2 ^ 63) : lN a < lN b ↔ a < b := by
  rw [Int64.lt_iff_toInt_lt, pk_lT ha, pk_lT hb]; omega
theorem pk_lLE {a b : Nat} (ha : a < 2 ^ 63) (hb : b < 2 ^ 63) : lN a ≤ lN b ↔ a ≤ b := by
  rw [Int64.le_iff_toInt_le, pk_lT ha, pk_lT hb]; omega
theorem pk_lEQ {a b : Nat} (ha : a < 2 ^ 63) (hb : b < 2 ^ 63) : lN a = lN b ↔ a = b := by
  rw [← Int64.toInt_inj, pk_lT ha, pk_lT hb]; omega
theorem pk_lOf {x : Int64} (h : ¬ x < 0) : ∃ k : Nat, k < 2 ^ 63 ∧ x = lN k := by
  rw [Int64.lt_iff_toInt_lt] at h
  have h0 : (0 : Int64).toInt = 0 := by decide
  have hx := Int64.toInt_lt x
  refine ⟨x.toInt.toNat, by omega, Int64.toInt_inj.mp ?_⟩
  rw [pk_lT (by omega)]
  omega
theorem pk_least (P : Nat → Prop) (h : ∃ k, P k) : ∃ k, P k ∧ ∀ j, j < k → ¬ P j := by
  obtain ⟨k, hk⟩ := h
  induction k using Nat.strongRecOn with
  | ind k ih =>
    by_cases e : ∃ j, j < k ∧ P j
    · obtain ⟨j, hj, pj⟩ := e
      exact ih j hj pj
    · exact ⟨k, hk, fun j hj pj => e ⟨j, hj, pj⟩⟩
end
section
/-! counting and sorting: what took asks of both sides -/
def tk_cnt (p : Int32 → Bool) (f : Nat → Int32) : Nat → Nat
  | 0 => 0
  | n + 1 => tk_cnt p f n + (if p (f n) = true then 1 else 0)
theorem tk_s (p : Int32 → Bool) (f : Nat → Int32) (n : Nat) : tk_cnt p f (n + 1) = tk_cnt p f n + (if p (f n) = true then 1 else 0) := rfl
theorem tk_st {p : Int32 → Bool} {f : Nat → Int32} {n : Nat} (h : p (f n) = true) : tk_cnt p f (n + 1) = tk_cnt p f n + 1 := by
  rw [tk_s, if_pos h]
theorem tk_sf {p : Int32 → Bool} {f : Nat → Int32} {n : Nat} (h : p (f n) = false) : tk_cnt p f (n + 1) = tk_cnt p f n := by
  rw [tk_s, if_neg (by rw [h]; exact Bool.false_ne_true)]; rfl
theorem tk_le (p : Int32 → Bool) (f : Nat → Int32) : ∀ n, tk_cnt p f n ≤ n := by
  intro n
  induction n with
  | zero => exact Nat.le_refl _
  | succ n ih =>
    cases h : p (f n) with
    | true => rw [tk_st h]; omega
    | false => rw [tk_sf h]; omega
theorem tk_small {p : Int32 → Bool} {f : Nat → Int32} {k : Nat} : ∀ n, (∀ j, k ≤ j → j < n → p (f j) = false) → tk_cnt p f n ≤ k := by
  intro n
  induction n with
  | zero => intro _; exact Nat.zero_le _
  | succ n ih =>
    intro h
    by_cases hk : k ≤ n
    · rw [tk_sf (h n hk (by omega))]
      exact ih (fun j a b => h j a (by omega))
    · have := tk_le p f (n + 1)
      omega
theorem tk_big {p : Int32 → Bool} {f : Nat → Int32} : ∀ n m, m ≤ n → (∀ j, j < m → p (f j) = true) → m ≤ tk_cnt p f n := by
  intro n
  induction n with
  | zero => intro m h _; exact h
  | succ n ih =>
    intro m h hp
    by_cases e : m = n + 1
    · have a := ih n (Nat.le_refl _) (fun j hj => hp j (by omega))
      rw [tk_st (hp n (by omega))]
      omega
    · have a := ih m (by omega) hp
      have b : tk_cnt p f n ≤ tk_cnt p f (n + 1) := by rw [tk_s]; omega
      omega
theorem tk_cong {p : Int32 → Bool} {f g : Nat → Int32} : ∀ n, (∀ j, j < n → f j = g j) → tk_cnt p f n = tk_cnt p g n := by
  intro n
  induction n with
  | zero => intro _; rfl
  | succ n ih => intro h; rw [tk_s, tk_s, ih (fun j hj => h j (by omega)), h n (by omega)]
theorem tk_occ {p : Int32 → Bool} {f : Nat → Int32} {m : Nat} : ∀ n, m < tk_cnt p f n → ∃ i, i < n ∧ p (f i) = true ∧ tk_cnt p f i = m := by
  intro n
  induction n with
  | zero => intro h; exact absurd h (Nat.not_lt_zero _)
  | succ n ih =>
    intro h
    cases e : p (f n) with
    | true =>
      rw [tk_st e] at h
      by_cases hm : m < tk_cnt p f n
      · obtain ⟨i, hi, a, b⟩ := ih hm
        exact ⟨i, by omega, a, b⟩
      · exact ⟨n, by omega, e, by omega⟩
    | false =>
      rw [tk_sf e] at h
      obtain ⟨i, hi, a, b⟩ := ih h
      exact ⟨i, by omega, a, b⟩
theorem tk_ins {p : Int32 → Bool} {s s' : Nat → Int32} {v : Int32} {j : Nat} (h1 : ∀ a, a < j → s' a = s a) (h2 : s' j = v) :
    ∀ i, j ≤ i → (∀ a, j < a → a ≤ i → s' a = s (a - 1)) → tk_cnt p s' (i + 1) = tk_cnt p s i + (if p v = true then 1 else 0) := by
  intro i
  induction i with
  | zero =>
    intro hj _
    have e : j = 0 := by omega
    subst e
    rw [tk_s, h2]; rfl
  | succ i ih =>
    intro hj h3
    by_cases e : j = i + 1
    · subst e
      rw [tk_s, h2, tk_cong (i + 1) h1]
    · rw [tk_s, ih (by omega) (fun a x y => h3 a x (by omega)), h3 (i + 1) (by omega) (Nat.le_refl _), Nat.add_sub_cancel, tk_s]
      omega
def tk_rk (t : Nat → Int32) (i : Nat) : Nat → Nat
  | 0 => 0
  | j + 1 => tk_rk t i j + (if t j < t i ∨ (t j = t i ∧ j < i) then 1 else 0)
theorem tk_rk_s (t : Nat → Int32) (i n : Nat) : tk_rk t i (n + 1) = tk_rk t i n + (if t n < t i ∨ (t n = t i ∧ n < i) then 1 else 0) := rfl
theorem tk_rk_le (t : Nat → Int32) (i : Nat) : ∀ n, tk_rk t i n ≤ n := by
  intro n
  induction n with
  | zero => exact Nat.le_refl _
  | succ n ih => rw [tk_rk_s]; split <;> omega
def tk_lt (v : Int32) : Int32 → Bool := fun x => decide (x < v)
def tk_eq (v : Int32) : Int32 → Bool := fun x => decide (x = v)
def tk_lq (v : Int32) : Int32 → Bool := fun x => decide (x ≤ v)
theorem tk_rk_eq (t : Nat → Int32) (i : Nat) : ∀ n, tk_rk t i n = tk_cnt (tk_lt (t i)) t n + tk_cnt (tk_eq (t i)) t (min i n) := by
  intro n
  induction n with
  | zero => rw [Nat.min_zero]; rfl
  | succ n ih =>
    by_cases hn : n < i
    · have e1 : min i n = n := by omega
      have e2 : min i (n + 1) = n + 1 := by omega
      rw [e1] at ih
      rw [e2, tk_rk_s, ih]
      by_cases a : t n < t i
      · have b : ¬ t n = t i := fun e => by rw [e] at a; exact Int32.lt_irrefl a
        rw [tk_st (p := tk_lt (t i)) (decide_eq_true a), tk_sf (p := tk_eq (t i)) (decide_eq_false b), if_pos (Or.inl a)]
        omega
      · by_cases b : t n = t i
        · rw [tk_sf (p := tk_lt (t i)) (decide_eq_false a), tk_st (p := tk_eq (t i)) (decide_eq_true b), if_pos (Or.inr ⟨b, hn⟩)]
          omega
        · rw [tk_sf (p := tk_lt (t i)) (decide_eq_false a), tk_sf (p := tk_eq (t i)) (decide_eq_false b), if_neg (fun z => z.elim a (fun z => b z.1))]
          omega
    · have e1 : min i n = i := by omega
      have e2 : min i (n + 1) = i := by omega
      rw [e1] at ih
      rw [e2, tk_rk_s, ih]
      by_cases a : t n < t i
      · rw [tk_st (p := tk_lt (t i)) (decide_eq_true a), if_pos (Or.inl a)]
        omega
      · rw [tk_sf (p := tk_lt (t i)) (decide_eq_false a), if_neg (fun z => z.elim a (fun z => hn z.2))]
        omega
theorem tk_lq_eq (v : Int32) (t : Nat → Int32) : ∀ n, tk_cnt (tk_lq v) t n = tk_cnt (tk_lt v) t n + tk_cnt (tk_eq v) t n := by
  intro n
  induction n with
  | zero => rfl
  | succ n ih =>
    by_cases a : t n < v
    · have b : ¬ t n = v := fun e => by rw [e] at a; exact Int32.lt_irrefl a
      rw [tk_st (p := tk_lt v) (decide_eq_true a), tk_sf (p := tk_eq v) (decide_eq_false b), tk_st (p := tk_lq v) (decide_eq_true (Int32.le_of_lt a)), ih]
      omega
    · by_cases b : t n = v
      · rw [tk_sf (p := tk_lt v) (decide_eq_false a), tk_st (p := tk_eq v) (decide_eq_true b), tk_st (p := tk_lq v) (decide_eq_true (by rw [b]; exact Int32.le_rfl)), ih]
        omega
      · rw [tk_sf (p := tk_lt v) (decide_eq_false a), tk_sf (p := tk_eq v) (decide_eq_false b), tk_sf (p := tk_lq v) (decide_eq_false (fun z => a (Int32.lt_of_le_of_ne z b))), ih]
/-- s holds the first i of t, sorted -/
def tk_St (t : Nat → Int32) (i : Nat) (s : Nat → Int32) : Prop := (∀ a b, a ≤ b → b < i → s a ≤ s b) ∧ ∀ p, tk_cnt p s i = tk_cnt p t i
theorem tk_St0 (t s : Nat → Int32) : tk_St t 0 s := ⟨fun _ _ _ h => absurd h (Nat.not_lt_zero _), fun _ => rfl⟩
theorem tk_step {t s s' : Nat → Int32} {i j : Nat} {v : Int32} (h : tk_St t i s) (hv : t i = v) (hj : j ≤ i) (h1 : ∀ a, a < j → s' a = s a) (h2 : s' j = v)
    (h3 : ∀ a, j < a → a ≤ i → s' a = s (a - 1)) (h4 : ∀ a, j ≤ a → a < i → v < s a) (h5 : j = 0 ∨ ¬ v < s (j - 1)) : tk_St t (i + 1) s' := by
  refine ⟨fun a b hab hb => ?_, fun p => ?_⟩
  · by_cases b1 : b < j
    · rw [h1 a (by omega), h1 b b1]
      exact h.1 a b hab (by omega)
    · by_cases b2 : b = j
      · subst b2
        rw [h2]
        by_cases a2 : a = b
        · rw [a2, h2]; exact Int32.le_rfl
        · rw [h1 a (by omega)]
          rcases h5 with h5 | h5
          · omega
          · exact Int32.le_trans (h.1 a (b - 1) (by omega) (by omega)) (Int32.not_lt.mp h5)
      · rw [h3 b (by omega) (by omega)]
        by_cases a1 : a < j
        · rw [h1 a a1]; exact h.1 a (b - 1) (by omega) (by omega)
        · by_cases a2 : a = j
          · rw [a2, h2]; exact Int32.le_of_lt (h4 (b - 1) (by omega) (by omega))
          · rw [h3 a (by omega) (by omega)]; exact h.1 (a - 1) (b - 1) (by omega) (by omega)
  · rw [tk_ins h1 h2 i hj h3, h.2 p, tk_s, hv]
theorem tk_uniq {t s : Nat → Int32} {n k i : Nat} (h : tk_St t n s) (hi : i < n) (hk : k < n) (e : tk_rk t i n = k) : t i = s k := by
  rw [tk_rk_eq, Nat.min_eq_left (by omega)] at e
  have e2 : tk_cnt (tk_eq (t i)) t i < tk_cnt (tk_eq (t i)) t n := by
    have a : tk_cnt (tk_eq (t i)) t (i + 1) = tk_cnt (tk_eq (t i)) t i + 1 := tk_st (p := tk_eq (t i)) (decide_eq_true rfl)
    have b : ∀ d, tk_cnt (tk_eq (t i)) t (i + 1) ≤ tk_cnt (tk_eq (t i)) t (i + 1 + d) := by
      intro d
      induction d with
      | zero => exact Nat.le_refl _
      | succ d ih => rw [← Nat.add_assoc, tk_s (tk_eq (t i)) t (i + 1 + d)]; omega
    have c := b (n - (i + 1))
    rw [show i + 1 + (n - (i + 1)) = n from by omega] at c
    omega
  have e3 := tk_lq_eq (t i) t n
  have l1 := h.2 (tk_lt (t i))
  have l2 := h.2 (tk_lq (t i))
  by_cases a : s k < t i
  · have b : k + 1 ≤ tk_cnt (tk_lt (t i)) s n := tk_big n (k + 1) hk (fun j hj => decide_eq_true (Int32.lt_of_le_of_lt (h.1 j k (by omega) hk) a))
    omega
  · by_cases c : t i < s k
    · have b : tk_cnt (tk_lq (t i)) s n ≤ k := tk_small n (fun j h1 h2 => decide_eq_false (fun z => Int32.lt_irrefl (Int32.lt_of_lt_of_le c (Int32.le_trans (h.1 k j h1 h2) z))))
      omega
    · exact Int32.le_antisymm (Int32.not_lt.mp a) (Int32.not_lt.mp c)
theorem tk_ex {t s : Nat → Int32} {n k : Nat} (h : tk_St t n s) (hk : k < n) : ∃ i, i < n ∧ tk_rk t i n = k := by
  have a : tk_cnt (tk_lt (s k)) s n ≤ k := tk_small n (fun j h1 h2 => decide_eq_false (fun z => Int32.lt_irrefl (Int32.lt_of_lt_of_le z (h.1 k j h1 h2))))
  have b : k + 1 ≤ tk_cnt (tk_lq (s k)) s n := tk_big n (k + 1) hk (fun j hj => decide_eq_true (h.1 j k (by omega) hk))
  have c := tk_lq_eq (s k) t n
  have l1 := h.2 (tk_lt (s k))
  have l2 := h.2 (tk_lq (s k))
  obtain ⟨i, hi, hp, hc⟩ := tk_occ (p := tk_eq (s k)) (f := t) (m := k - tk_cnt (tk_lt (s k)) t n) n (by omega)
  have e : t i = s k := of_decide_eq_true hp
  refine ⟨i, hi, ?_⟩
  rw [tk_rk_eq, Nat.min_eq_left (by omega), e, hc]
  omega
/-! how many of the first n slots run at s -/
def rn_cnt (st a : Nat → Int32) (s : Int32) : Nat → Nat
  | 0 => 0
  | q + 1 => rn_cnt st a s q + (if st q = 1 ∧ a q = s then 1 else 0)
theorem rn_s (st a : Nat → Int32) (s : Int32) (n : Nat) : rn_cnt st a s (n + 1) = rn_cnt st a s n + (if st n = 1 ∧ a n = s then 1 else 0) := rfl
theorem rn_le (st a : Nat → Int32) (s : Int32) : ∀ n, rn_cnt st a s n ≤ n := by
  intro n
  induction n with
  | zero => exact Nat.le_refl _
  | succ n ih => rw [rn_s]; split <;> omega
theorem rn_cong {st a st' a' : Nat → Int32} {s : Int32} : ∀ n, (∀ j, j < n → st j = st' j ∧ a j = a' j) → rn_cnt st a s n = rn_cnt st' a' s n := by
  intro n
  induction n with
  | zero => intro _; rfl
  | succ n ih => intro h; rw [rn_s, rn_s, ih (fun j hj => h j (by omega)), (h n (by omega)).1, (h n (by omega)).2]
theorem rn_upd {st a : Nat → Int32} {s w b : Int32} {q : Nat} : ∀ n, q < n →
    rn_cnt (upd st q w) (upd a q b) s n + (if st q = 1 ∧ a q = s then 1 else 0) = rn_cnt st a s n + (if w = 1 ∧ b = s then 1 else 0) := by
  intro n
  induction n with
  | zero => intro h; omega
  | succ n ih =>
    intro h
    rw [rn_s, rn_s]
    by_cases e : q = n
    · subst e
      rw [pk_us, pk_us, rn_cong (st' := st) (a' := a) q (fun j hj => ⟨pk_un (by omega), pk_un (by omega)⟩)]
      omega
    · rw [pk_un (by omega), pk_un (by omega)]
      have := ih (by omega)
      omega
theorem ud_same {f : Nat → Int32} {k : Nat} : upd f k (f k) = f := by
  funext j
  unfold upd
  split
  · next h => rw [h]
  · rfl
theorem ud_ud {f : Nat → Int32} {k : Nat} {x y : Int32} : upd (upd f k x) k y = upd f k y := by
  funext j
  unfold upd
  split <;> rfl
/-! masks of six bits -/
def mk_m (b : Nat → Bool) : Nat → Int32
  | 0 => 0
  | i + 1 => if b i = true then mk_m b i ||| ((1 : Int32) <<< (nI i &&& 31)) else mk_m b i
def mk_f (b0 b1 b2 b3 b4 b5 : Bool) (j : Nat) : Bool := match j with
  | 0 => b0
  | 1 => b1
  | 2 => b2
  | 3 => b3
  | 4 => b4
  | _ => b5
theorem mk_key : ∀ b0 b1 b2 b3 b4 b5 : Bool, ∀ s : Fin 6, ((mk_m (mk_f b0 b1 b2 b3 b4 b5) 6 >>> (nI s.val &&& 31)) &&& 1) = if mk_f b0 b1 b2 b3 b4 b5 s.val = true then 1 else 0 := by
  decide +kernel
theorem mk_fb (b : Nat → Bool) {s : Nat} (h : s < 6) : mk_f (b 0) (b 1) (b 2) (b 3) (b 4) (b 5) s = b s := by
  match s, h with
  | 0, _ => rfl
  | 1, _ => rfl
  | 2, _ => rfl
  | 3, _ => rfl
  | 4, _ => rfl
  | 5, _ => rfl
theorem mk_cong {b c : Nat → Bool} : ∀ n, (∀ j, j < n → b j = c j) → mk_m b n = mk_m c n := by
  intro n
  induction n with
  | zero => intro _; rfl
  | succ n ih =>
    intro h
    show (if b n = true then mk_m b n ||| ((1 : Int32) <<< (nI n &&& 31)) else mk_m b n) = (if c n = true then mk_m c n ||| ((1 : Int32) <<< (nI n &&& 31)) else mk_m c n)
    rw [ih (fun j hj => h j (by omega)), h n (by omega)]
theorem mk_bit (b : Nat → Bool) {s : Nat} (h : s < 6) : ((mk_m b 6 >>> (nI s &&& 31)) &&& 1) = if b s = true then 1 else 0 := by
  have e := mk_key (b 0) (b 1) (b 2) (b 3) (b 4) (b 5) ⟨s, h⟩
  rw [mk_fb b h, mk_cong 6 (fun j hj => mk_fb b hj)] at e
  exact e
theorem mk_z : ∀ s : Fin 6, (((0 : Int32) >>> (nI s.val &&& 31)) &&& 1) = 0 := by decide +kernel
theorem mk_0 {b : Nat → Bool} : mk_m b 6 = 0 ↔ ∀ s, s < 6 → b s = false := by
  constructor
  · intro h s hs
    have e := mk_bit b hs
    rw [h, mk_z ⟨s, hs⟩] at e
    cases hb : b s with
    | false => rfl
    | true => rw [hb] at e; exact absurd e (by decide)
  · intro h
    rw [mk_cong (c := fun _ => false) 6 h]
    rfl
theorem mk_1 (x : Int32) : x &&& 1 = 0 ∨ x &&& 1 = 1 := by
  obtain ⟨j, hj, e⟩ := pk_andE x (m := 1) 1 (by decide)
  match j, hj with
  | 0, _ => exact Or.inl e
  | 1, _ => exact Or.inr e
/-! points on the ring -/
def rg_P (s j : Nat) : Nat := (s * 37 + j * 101 + 17) * 59
def rg_D (key s j : Nat) : Nat := (rg_P s j - key) % 256
theorem rg_pt (s j : Nat) : (nI s * 37 + nI j * 101 + 17) * 59 = nI (rg_P s j) := by
  show (nI s * nI 37 + nI j * nI 101 + nI 17) * nI 59 = _
  rw [pk_mul, pk_mul, nI_add, nI_add, pk_mul]
  rfl
theorem rg_lo (s j : Nat) : 1003 ≤ rg_P s j := by unfold rg_P; omega
theorem rg_hi {s j : Nat} (hs : s < 6) (hj : j < 10) : rg_P s j < 100000 := by unfold rg_P; omega
theorem rg_dx {s j key : Nat} (hs : s < 6) (hj : j < 10) (hk : key < 256) : (nI (rg_P s j) - nI key) &&& 255 = nI (rg_D key s j) := by
  have a := rg_lo s j
  have b := rg_hi hs hj
  rw [pk_sub (by omega), pk_andN (by omega) 8 (by decide)]
  rfl
theorem rg_D_lt (key s j : Nat) : rg_D key s j < 256 := Nat.mod_lt _ (by decide)
theorem rg_m {s j key k : Nat} (hk : key < 256) (h : k < 256) : rg_P s j % 256 = (key + k) % 256 ↔ rg_D key s j = k := by
  have a := rg_lo s j
  unfold rg_D
  generalize rg_P s j = P at a ⊢
  omega
/-- c at distance d is the choice among the servers below S -/
def rg_B (b : Nat → Bool) (w : Nat → Nat) (key S : Nat) (c : Int32) (d : Nat) : Prop :=
  d ≤ 256 ∧ (∀ s, s < S → b s = true → ∀ j, j < w s → d ≤ rg_D key s j) ∧ (d = 256 → c = -1) ∧
  (d < 256 → ∃ e, e < S ∧ c = nI e ∧ b e = true ∧ (∃ j, j < w e ∧ rg_D key e j = d) ∧ ∀ s, s < e → b s = true → ∀ j, j < w s → d < rg_D key s j)
/-- .. among those below S and the first m points of S itself -/
def rg_I (b : Nat → Bool) (w : Nat → Nat) (key S m : Nat) (c : Int32) (d : Nat) : Prop :=
  d ≤ 256 ∧ (∀ s, s < S → b s = true → ∀ j, j < w s → d ≤ rg_D key s j) ∧ (∀ j, j < m → d ≤ rg_D key S j) ∧ (d = 256 → c = -1) ∧
  (d < 256 → ∃ e, e < S + 1 ∧ c = nI e ∧ b e = true ∧ (∃ j, j < w e ∧ rg_D key e j = d) ∧ ∀ s, s < e → b s = true → ∀ j, j < w s → d < rg_D key s j)
theorem rg_B0 (b : Nat → Bool) (w : Nat → Nat) (key : Nat) : rg_B b w key 0 (-1) 256 :=
  ⟨Nat.le_refl _, fun _ h => absurd h (Nat.not_lt_zero _), fun _ => rfl, fun h => absurd h (Nat.lt_irrefl _)⟩
theorem rg_skip {b : Nat → Bool} {w : Nat → Nat} {key S d : Nat} {c : Int32} (h : rg_B b w key S c d) (hb : b S = false) : rg_B b w key (S + 1) c d := by
  obtain ⟨h1, h2, h3, h4⟩ := h
  refine ⟨h1, fun s hs bs => ?_, h3, fun hd => ?_⟩
  · by_cases e : s = S
    · rw [e, hb] at bs; exact absurd bs Bool.false_ne_true
    · exact h2 s (by omega) bs
  · obtain ⟨e, he, r⟩ := h4 hd
    exact ⟨e, by omega, r⟩
theorem rg_in {b : Nat → Bool} {w : Nat → Nat} {key S d : Nat} {c : Int32} (h : rg_B b w key S c d) : rg_I b w key S 0 c d := by
  obtain ⟨h1, h2, h3, h4⟩ := h
  refine ⟨h1, h2, fun _ h => absurd h (Nat.not_lt_zero _), h3, fun hd => ?_⟩
  obtain ⟨e, he, r⟩ := h4 hd
  exact ⟨e, by omega, r⟩
theorem rg_out {b : Nat → Bool} {w : Nat → Nat} {key S d : Nat} {c : Int32} (h : rg_I b w key S (w S) c d) : rg_B b w key (S + 1) c d := by
  obtain ⟨h1, h2, h3, h4, h5⟩ := h
  refine ⟨h1, fun s hs bs => ?_, h4, h5⟩
  by_cases e : s = S
  · rw [e]; exact h3
  · exact h2 s (by omega) bs
theorem rg_no {b : Nat → Bool} {w : Nat → Nat} {key S m d : Nat} {c : Int32} (h : rg_I b w key S m c d) (hd : d ≤ rg_D key S m) : rg_I b w key S (m + 1) c d := by
  obtain ⟨h1, h2, h3, h4, h5⟩ := h
  refine ⟨h1, h2, fun j hj => ?_, h4, h5⟩
  by_cases e : j = m
  · rw [e]; exact hd
  · exact h3 j (by omega)
theorem rg_yes {b : Nat → Bool} {w : Nat → Nat} {key S m d : Nat} {c : Int32} (h : rg_I b w key S m c d) (hb : b S = true) (hm : m < w S) (hd : rg_D key S m < d) : rg_I b w key S (m + 1) (nI S) (rg_D key S m) := by
  obtain ⟨h1, h2, h3, h4, h5⟩ := h
  have hl := rg_D_lt key S m
  refine ⟨by omega, fun s hs bs j hj => ?_, fun j hj => ?_, fun e => by omega, fun _ => ⟨S, by omega, rfl, hb, ⟨m, hm, rfl⟩, fun s hs bs j hj => ?_⟩⟩
  · have := h2 s hs bs j hj; omega
  · by_cases e : j = m
    · rw [e]; exact Nat.le_refl _
    · have := h3 j (by omega); omega
  · have := h2 s hs bs j hj; omega
end
section
/-! the invariants, a group for the arrays that it speaks of -/
def iv_set (se : Nat → Int32) : Prop := ¬ se 4 = 0 ∧ 0 ≤ se 6 ∧ ∃ r : Nat, r ≤ 1000 ∧ se 3 = nI r
def iv_cli (re ho : Nat → Int32) : Prop := ∀ c, c < 6 → ¬ re c = 0 ∧ (ho c = -1 ∨ ∃ h : Nat, h < 6 ∧ ho c = nI h)
def iv_srv (we ti : Nat → Int32) : Prop := ∀ s, s < 6 → (∃ w : Nat, w < 10 ∧ we s = nI w) ∧ (ti s = -1 ∨ 0 ≤ ti s)
def iv_rt (rc : Nat) (rs : Nat → Int32) : Prop := rc ≤ 12 ∧ ∀ j, j < rc → 0 ≤ rs j
def iv_fnd (B : Nat) (fi si wl : Nat → Int32) : Prop := ∀ s, s < 6 → ∃ a : Nat, a ≤ B ∧ ((fi s = nI a ∧ si s = nI a ∧ wl s = 0) ∨ (fi s = -nI a ∧ si s = 0 ∧ wl s = nI a))
def iv_req (cl ky pt st at_ : Nat → Int32) : Prop := ∀ q, q < 32 → (∃ c : Nat, c < 6 ∧ cl q = nI c) ∧ (∃ k : Nat, k < 256 ∧ ky q = nI k) ∧ (∃ p : Nat, p < 4096 ∧ pt q = nI p) ∧ (st q = 1 → ∃ s : Nat, s < 6 ∧ at_ q = nI s)
def iv_run (nxt : Nat) (st at_ ru : Nat → Int32) : Prop := (∀ q, nxt ≤ q → q < 32 → st q = 0) ∧ ∀ s, s < 6 → ru s = nI (rn_cnt st at_ (nI s) 32)
def iv_tot (nxt dn : Nat) (to : Nat → Int64) : Prop := to 0 = lN nxt ∧ to 2 = lN dn
def iv_qs (l k w j : Nat) : Prop := j < l ∨ (k ≤ j ∧ j < w)
def iv_q (l k w nxt : Nat) (qn : Nat → Nat) (qx qy st : Nat → Int32) : Prop :=
  l ≤ k ∧ k ≤ w ∧ w ≤ 8 ∧ (∀ j, j < 8 → qy j = qx j) ∧ (∀ j, iv_qs l k w j → qx j = nI (qn j) ∧ qn j < nxt ∧ st (qn j % 32) = 0) ∧
  (∀ i j, iv_qs l k w i → iv_qs l k w j → i ≠ j → qn i % 32 ≠ qn j % 32)
theorem iv_q_st {l k w nxt : Nat} {qn : Nat → Nat} {qx qy st : Nat → Int32} {q : Nat} {x : Int32} (h : iv_q l k w nxt qn qx qy st) (hq : ∀ j, iv_qs l k w j → qn j % 32 ≠ q) : iv_q l k w nxt qn qx qy (upd st q x) := by
  obtain ⟨h1, h2, h3, h4, h5, h6⟩ := h
  refine ⟨h1, h2, h3, h4, fun j hj => ?_, h6⟩
  obtain ⟨a, b, c⟩ := h5 j hj
  exact ⟨a, b, by rw [pk_un (hq j hj)]; exact c⟩
theorem iv_q_ne {l k w nxt : Nat} {qn : Nat → Nat} {qx qy st : Nat → Int32} {q : Nat} {x : Int32} (h : iv_q l k w nxt qn qx qy st) (hq : ¬ st q = 0) : iv_q l k w nxt qn qx qy (upd st q x) :=
  iv_q_st h (fun j hj e => hq (by rw [← e]; exact (h.2.2.2.2.1 j hj).2.2))
theorem iv_q_drop {l k w nxt : Nat} {qn : Nat → Nat} {qx qy st : Nat → Int32} {x : Int32} (h : iv_q l k w nxt qn qx qy st) (hk : k < w) : iv_q l (k + 1) w nxt qn qx qy (upd st (qn k % 32) x) := by
  obtain ⟨h1, h2, h3, h4, h5, h6⟩ := h
  have sub : ∀ j, iv_qs l (k + 1) w j → iv_qs l k w j ∧ j ≠ k := by
    intro j hj
    rcases hj with hj | hj
    · exact ⟨Or.inl hj, by omega⟩
    · exact ⟨Or.inr ⟨by omega, hj.2⟩, by omega⟩
  have hk' : iv_qs l k w k := Or.inr ⟨Nat.le_refl _, hk⟩
  refine ⟨by omega, by omega, h3, h4, fun j hj => ?_, fun i j hi hj => h6 i j (sub i hi).1 (sub j hj).1⟩
  obtain ⟨a, b, c⟩ := h5 j (sub j hj).1
  exact ⟨a, b, by rw [pk_un (h6 j k (sub j hj).1 hk' (sub j hj).2)]; exact c⟩
theorem iv_q_keep {l k w nxt : Nat} {qn : Nat → Nat} {qx qy st : Nat → Int32} (h : iv_q l k w nxt qn qx qy st) (hk : k < w) : iv_q (l + 1) (k + 1) w nxt (fun j => if j = l then qn k else qn j) (upd qx l (qx k)) (upd qy l (qy k)) st := by
  obtain ⟨h1, h2, h3, h4, h5, h6⟩ := h
  have hk' : iv_qs l k w k := Or.inr ⟨Nat.le_refl _, hk⟩
  have sub : ∀ j, iv_qs (l + 1) (k + 1) w j → (j = l ∨ (j ≠ l ∧ iv_qs l k w j ∧ j ≠ k)) := by
    intro j hj
    by_cases e : j = l
    · exact Or.inl e
    · rcases hj with hj | hj
      · exact Or.inr ⟨e, Or.inl (by omega), by omega⟩
      · exact Or.inr ⟨e, Or.inr ⟨by omega, hj.2⟩, by omega⟩
  refine ⟨by omega, by omega, h3, fun j hj => ?_, fun j hj => ?_, fun i j hi hj hij => ?_⟩
  · by_cases e : j = l
    · rw [e, pk_us, pk_us]; exact h4 k (by omega)
    · rw [pk_un e, pk_un e]; exact h4 j hj
  · rcases sub j hj with e | ⟨e, hs, _⟩
    · rw [e, pk_us]; dsimp only; rw [if_pos rfl]; exact h5 k hk'
    · rw [pk_un e]; dsimp only; rw [if_neg e]; exact h5 j hs
  · dsimp only
    rcases sub i hi with e | ⟨e, hs, hn⟩
    · rcases sub j hj with e' | ⟨e', hs', hn'⟩
      · exact absurd (e.trans e'.symm) hij
      · rw [if_pos e, if_neg e']; exact h6 k j hk' hs' (Ne.symm hn')
    · rcases sub j hj with e' | ⟨e', hs', hn'⟩
      · rw [if_neg e, if_pos e']; exact h6 i k hs hk' hn
      · rw [if_neg e, if_neg e']; exact h6 i j hs hs' hij
theorem iv_q_end {l w nxt : Nat} {qn : Nat → Nat} {qx qy st : Nat → Int32} (h : iv_q l w w nxt qn qx qy st) : iv_q 0 0 l nxt qn qx qy st := by
  obtain ⟨h1, h2, h3, h4, h5, h6⟩ := h
  have sub : ∀ j, iv_qs 0 0 l j → iv_qs l w w j := by
    intro j hj
    rcases hj with hj | hj
    · exact absurd hj (Nat.not_lt_zero _)
    · exact Or.inl hj.2
  exact ⟨Nat.le_refl _, Nat.zero_le _, by omega, h4, fun j hj => h5 j (sub j hj), fun i j hi hj => h6 i j (sub i hi) (sub j hj)⟩
theorem iv_run_same {nxt : Nat} {st at_ ru : Nat → Int32} {q : Nat} {w : Int32} (h : iv_run nxt st at_ ru) (hq : q < nxt) (h32 : q < 32) (h0 : ¬ st q = 1) (hw : ¬ w = 1) : iv_run nxt (upd st q w) at_ ru := by
  refine ⟨fun j hj h32 => by rw [pk_un (by omega)]; exact h.1 j hj h32, fun s hs => ?_⟩
  have e := rn_upd (st := st) (a := at_) (s := nI s) (w := w) (b := at_ q) 32 h32
  rw [ud_same, if_neg (fun z => h0 z.1), if_neg (fun z => hw z.1)] at e
  rw [h.2 s hs]
  exact congrArg nI e.symm
theorem iv_run_enter {nxt : Nat} {st at_ ru : Nat → Int32} {q : Nat} {w b : Int32} (h : iv_run nxt st at_ ru) (hq : q < nxt + 1) (h32 : q < 32) (h0 : ¬ st q = 1) (hw : ¬ w = 1) : iv_run (nxt + 1) (upd st q w) (upd at_ q b) ru := by
  refine ⟨fun j hj h32 => by rw [pk_un (by omega)]; exact h.1 j (by omega) h32, fun s hs => ?_⟩
  have e := rn_upd (st := st) (a := at_) (s := nI s) (w := w) (b := b) 32 h32
  rw [if_neg (fun z => h0 z.1), if_neg (fun z => hw z.1)] at e
  rw [h.2 s hs]
  exact congrArg nI e.symm
theorem iv_inj6 {a b : Nat} (ha : a < 6) (hb : b < 6) (h : nI a = nI b) : a = b := (nI_eq (by omega) (by omega)).mp h
theorem iv_run_start {nxt : Nat} {st at_ ru : Nat → Int32} {q s : Nat} (h : iv_run nxt st at_ ru) (hq : q < nxt) (h32 : q < 32) (hs : s < 6) (h0 : ¬ st q = 1) : iv_run nxt (upd st q 1) (upd at_ q (nI s)) (upd ru s (ru s + 1)) := by
  refine ⟨fun j hj h32 => by rw [pk_un (by omega)]; exact h.1 j hj h32, fun r hr => ?_⟩
  have e := rn_upd (st := st) (a := at_) (s := nI r) (w := 1) (b := nI s) 32 h32
  rw [if_neg (fun z => h0 z.1)] at e
  by_cases x : r = s
  · subst x
    rw [if_pos ⟨rfl, rfl⟩] at e
    rw [pk_us, h.2 r hr, nI_1]
    exact congrArg nI e.symm
  · rw [if_neg (fun z => x (iv_inj6 hs hr z.2).symm)] at e
    rw [pk_un x, h.2 r hr]
    exact congrArg nI e.symm
theorem iv_run_stop {nxt : Nat} {st at_ ru : Nat → Int32} {q s : Nat} {w : Int32} (h : iv_run nxt st at_ ru) (hq : q < nxt) (h32 : q < 32) (hs : s < 6) (h1 : st q = 1) (ha : at_ q = nI s) (hw : ¬ w = 1) : iv_run nxt (upd st q w) at_ (upd ru s (ru s - 1)) := by
  refine ⟨fun j hj h32 => by rw [pk_un (by omega)]; exact h.1 j hj h32, fun r hr => ?_⟩
  have e := rn_upd (st := st) (a := at_) (s := nI r) (w := w) (b := at_ q) 32 h32
  rw [ud_same, if_neg (c := w = 1 ∧ _) (fun z => hw z.1)] at e
  by_cases x : r = s
  · subst x
    rw [if_pos ⟨h1, ha⟩] at e
    have e' : rn_cnt st at_ (nI r) 32 = rn_cnt (upd st q w) at_ (nI r) 32 + 1 := e.symm
    rw [pk_us, h.2 r hr, e']
    exact nI_pred _
  · rw [if_neg (fun z => x (iv_inj6 hs hr (ha.symm.trans z.2)).symm)] at e
    rw [pk_un x, h.2 r hr]
    exact congrArg nI e.symm
theorem iv_req_st {cl ky pt st at_ : Nat → Int32} {q : Nat} {w : Int32} (h : iv_req cl ky pt st at_) (hw : ¬ w = 1) : iv_req cl ky pt (upd st q w) at_ := by
  intro j hj
  obtain ⟨a, b, c, d⟩ := h j hj
  refine ⟨a, b, c, fun e => ?_⟩
  by_cases x : j = q
  · rw [x, pk_us] at e; exact absurd e hw
  · rw [pk_un x] at e; exact d e
theorem iv_req_start {cl ky pt st at_ : Nat → Int32} {q s : Nat} {w : Int32} (h : iv_req cl ky pt st at_) (hs : s < 6) : iv_req cl ky pt (upd st q w) (upd at_ q (nI s)) := by
  intro j hj
  obtain ⟨a, b, c, d⟩ := h j hj
  refine ⟨a, b, c, fun e => ?_⟩
  by_cases x : j = q
  · rw [x, pk_us]; exact ⟨s, hs, rfl⟩
  · rw [pk_un x] at e ⊢; exact d e
theorem iv_fnd_le {B C : Nat} {fi si wl : Nat → Int32} (h : iv_fnd B fi si wl) (hB : B ≤ C) : iv_fnd C fi si wl := by
  intro s hs
  obtain ⟨a, ha, r⟩ := h s hs
  exact ⟨a, Nat.le_trans ha hB, r⟩
theorem iv_neg {w : Nat} (h : w < 2 ^ 31) : (-nI w).toInt = -(w : Int) := by
  rw [Int32.toInt_neg, nI_toInt h]
  exact Int.bmod_eq_of_le (by omega) (by omega)
end
section
/-! small rows on numbers -/
theorem ms_o32 : ∀ m : Fin 32, (nI m.val - 32) &&& 31 = nI m.val := by decide +kernel
theorem ms_old {nx i : Nat} (h : nx + i < 2 ^ 31) : (nI nx - 32 + nI i) &&& 31 = nI ((nx + i) % 32) := by
  have e : nI nx - 32 + nI i = nI (nx + i) - 32 := by
    rw [← nI_add, Int32.sub_eq_add_neg, Int32.sub_eq_add_neg, Int32.add_assoc, Int32.add_comm (-32), ← Int32.add_assoc]
  rw [e]
  by_cases z : nx + i < 32
  · rw [Nat.mod_eq_of_lt z]
    exact ms_o32 ⟨nx + i, z⟩
  · rw [show (32 : Int32) = nI 32 from rfl, pk_sub (by omega), pk_andN (by omega) 5 (by decide)]
    exact congrArg nI (by omega)
theorem ms_slot {m : Nat} (h : m < 2 ^ 31) : nI m &&& 31 = nI (m % 32) := pk_andN (by omega) 5 (by decide)
theorem ms_rem {m : Nat} (h : m < 2 ^ 31) : nI m - nI m / 32 * 32 = nI (m % 32) := pk_rem (d := 32) h (by decide) (by decide)
theorem ms_lsub {a b : Nat} (ha : a < 2 ^ 31) (hb : b < 2 ^ 31) : (lN a - lN b).toInt = (a : Int) - b := by
  rw [Int64.toInt_sub, pk_lT (by omega), pk_lT (by omega)]
  exact Int.bmod_eq_of_le (by omega) (by omega)
theorem ms_keptL {r nx : Nat} (hr : r < 2 ^ 31) (hn : nx < 2 ^ 31) : lN nx - 32 ≤ (nI r).toInt64 ↔ nx ≤ r + 32 := by
  rw [nI_l hr, Int64.le_iff_toInt_le, show (32 : Int64) = lN 32 from rfl, ms_lsub hn (by decide), pk_lT (by omega)]
  omega
theorem ms_keptI {r nx : Nat} (hr : r < 2 ^ 31) (hn : nx < 2 ^ 30) : nI nx - 32 ≤ nI r ↔ nx ≤ r + 32 := by
  rw [Int32.le_iff_toInt_le, show (32 : Int32) = nI 32 from rfl, pk_sub_toInt hn (by decide), nI_toInt hr]
  omega
theorem ms_keptLt {r nx : Nat} (hr : r < 2 ^ 31) (hn : nx < 2 ^ 31) : (nI r).toInt64 < lN nx ↔ r < nx := by
  rw [nI_l hr, pk_lLT (by omega) (by omega)]
theorem ms_comm {f : Nat → Int64} {i j : Nat} {x y : Int64} (h : i ≠ j) : vp_updL (vp_updL f i x) j y = vp_updL (vp_updL f j y) i x := by
  funext k
  unfold vp_updL
  by_cases a : k = j
  · by_cases b : k = i
    · exact absurd (b.symm.trans a) h
    · rw [if_pos a, if_neg b, if_pos a]
  · rw [if_neg a, if_neg a]
theorem ms_lt2 {x : Int32} : x < 2 ↔ x ≤ 1 := by
  rw [Int32.lt_iff_toInt_lt, Int32.le_iff_toInt_le, show (2 : Int32).toInt = 2 from by decide, show (1 : Int32).toInt = 1 from by decide]
  omega
theorem ms_ltle {x : Int32} : ¬ x ≤ -1 ↔ 0 ≤ x := by
  rw [Int32.le_iff_toInt_le, Int32.le_iff_toInt_le, show (-1 : Int32).toInt = -1 from by decide, show (0 : Int32).toInt = 0 from by decide]
  omega
theorem ms_m1 : (-1 : Int32) < 0 := by decide
theorem ms_nb1 : vp_nar .boolean 1 = 1 := by decide
theorem ms_nb0 : vp_nar .boolean 0 = 0 := by decide
theorem ms_nI_m1 {n : Nat} (h : n < 2 ^ 31) : ¬ nI n = -1 := by
  intro e
  have := congrArg Int32.toInt e
  rw [nI_toInt h, show (-1 : Int32).toInt = -1 from by decide] at this
  omega
theorem ms_ge0_m1 {x : Int32} (h : 0 ≤ x) : ¬ x = -1 := by
  intro e
  rw [e] at h
  exact absurd h (by decide)
theorem ms_i0 : (0 : Int32).toInt = 0 := by decide
theorem ms_i1 : (1 : Int32).toInt = 1 := by decide
theorem ms_i2 : (2 : Int32).toInt = 2 := by decide
theorem ms_im1 : (-1 : Int32).toInt = -1 := by decide
theorem ms_im2 : (-2 : Int32).toInt = -2 := by decide
theorem ck_b {B a : Nat} {f si w : Int32} (hB : B < 2 ^ 30) (ha : a ≤ B) (h : (f = nI a ∧ si = nI a ∧ w = 0) ∨ (f = -nI a ∧ si = 0 ∧ w = nI a)) :
    ∃ c : Nat, c ≤ B + 1 ∧ si + 1 = nI c ∧ (0 < f → f + 1 = nI c) ∧ (¬ 0 < f → 1 = nI c) := by
  rcases h with ⟨h1, h2, h3⟩ | ⟨h1, h2, h3⟩
  · refine ⟨a + 1, by omega, by rw [h2, nI_1], fun _ => by rw [h1, nI_1], fun hn => ?_⟩
    rw [h1, Int32.lt_iff_toInt_lt, ms_i0, nI_toInt (by omega)] at hn
    rw [show a = 0 from by omega]; rfl
  · refine ⟨1, by omega, by rw [h2]; rfl, fun hp => ?_, fun _ => rfl⟩
    rw [h1, Int32.lt_iff_toInt_lt, ms_i0, iv_neg (by omega)] at hp
    omega
theorem ck_w {B a : Nat} {f si w : Int32} (hB : B < 2 ^ 30) (ha : a ≤ B) (h : (f = nI a ∧ si = nI a ∧ w = 0) ∨ (f = -nI a ∧ si = 0 ∧ w = nI a)) :
    ∃ c : Nat, c ≤ B + 1 ∧ w + 1 = nI c ∧ (f < 0 → f - 1 = -nI c) ∧ (¬ f < 0 → -1 = -nI c) := by
  rcases h with ⟨h1, h2, h3⟩ | ⟨h1, h2, h3⟩
  · refine ⟨1, by omega, by rw [h3]; rfl, fun hp => ?_, fun _ => rfl⟩
    rw [h1, Int32.lt_iff_toInt_lt, ms_i0, nI_toInt (by omega)] at hp
    omega
  · refine ⟨a + 1, by omega, by rw [h3, nI_1], fun _ => ?_, fun hn => ?_⟩
    · rw [h1, ← nI_1, Int32.neg_add, Int32.sub_eq_add_neg]
    · rw [h1, Int32.lt_iff_toInt_lt, ms_i0, iv_neg (by omega)] at hn
      rw [show a = 0 from by omega]; rfl
theorem ck_t1 {a : Nat} (h : a < 2 ^ 31) : 2 ≤ nI a ↔ 1 < nI a := by
  rw [Int32.le_iff_toInt_le, Int32.lt_iff_toInt_lt, ms_i1, ms_i2, nI_toInt h]; omega
theorem ck_t2 {a : Nat} (h : a < 2 ^ 31) : ¬ 2 ≤ -nI a := by
  rw [Int32.le_iff_toInt_le, ms_i2, iv_neg h]; omega
theorem ck_t3 {a : Nat} (h : a < 2 ^ 31) : -nI a ≤ -2 ↔ 1 < nI a := by
  rw [Int32.le_iff_toInt_le, Int32.lt_iff_toInt_lt, ms_i1, ms_im2, nI_toInt h, iv_neg h]; omega
theorem ck_t4 {a : Nat} (h : a < 2 ^ 31) : ¬ nI a ≤ -2 := by
  rw [Int32.le_iff_toInt_le, ms_im2, nI_toInt h]; omega
theorem ck_t5 : ¬ (1 : Int32) < 0 := by decide
end
section
/-! what both sides read: routes, counts, readiness -/
theorem fu_l {W : Nat → Prop} {d n : Nat} (hn : d < n) (h : ∀ m, d ≤ m → W (m + 1)) : W n := by
  obtain ⟨m, rfl⟩ : ∃ m, n = m + 1 := ⟨n - 1, by omega⟩
  exact h m (by omega)
theorem fu_m {d n : Nat} (hn : d < n) : ∃ m, n = m + 1 ∧ d ≤ m := ⟨n - 1, by omega, by omega⟩
theorem rd_1n0 : ¬ (1 : Int32) = 0 := by decide
theorem rd_y0 {P : Int32 → Prop} {v lo hi : Int32} (h1 : v < lo ∨ hi < v) (h : P 0) : wpY_in P v lo hi := by
  by_cases a : v < lo
  · exact br_t a h
  · exact br_f a (br_t (h1.resolve_left a) h)
theorem rd_y1 {P : Int32 → Prop} {v lo hi : Int32} (h1 : ¬ v < lo) (h2 : ¬ hi < v) (h : P 1) : wpY_in P v lo hi := br_f h1 (br_f h2 h)
theorem rd_yn {P : Int32 → Prop} {j a b : Nat} (ha : a ≤ j) (hb : j ≤ b) (hj : b < 2 ^ 31) (h : P 1) : wpY_in P (nI j) (nI a) (nI b) :=
  rd_y1 (nI_nlt ha (by omega)) (nI_nlt hb hj) h
theorem rd_lt6 {v : Int32} : 5 < v ↔ nI 6 ≤ v := by
  rw [Int32.lt_iff_toInt_lt, Int32.le_iff_toInt_le, show (5 : Int32).toInt = 5 from by decide, show (nI 6).toInt = 6 from by decide]
  omega
theorem rd_yo6 {P : Int32 → Prop} {v : Int32} (h1 : v < 0 ∨ nI 6 ≤ v) (h : P 0) : wpY_in P v 0 5 := rd_y0 (h1.imp id rd_lt6.mpr) h
theorem rd_y6 {P : Int32 → Prop} {s : Nat} (hs : s < 6) (h : P 1) : wpY_in P (nI s) 0 5 := rd_yn (a := 0) (b := 5) (by omega) (by omega) (by decide) h
theorem rd_so {P : Int32 → Prop} {v : Int32} (h1 : v < 0 ∨ nI 6 ≤ v) (h : P 0) : wpX_isServer P v := by
  by_cases a : v < 0
  · exact br_t a h
  · exact br_f a (br_t (h1.resolve_left a) h)
theorem rd_co {P : Int32 → Prop} {v : Int32} (h1 : v < 0 ∨ nI 6 ≤ v) (h : P 0) : wpX_isClient P v := by
  by_cases a : v < 0
  · exact br_t a h
  · exact br_f a (br_t (h1.resolve_left a) h)
theorem rd_s1 {P : Int32 → Prop} {s : Nat} (hs : s < 6) (h : P 1) : wpX_isServer P (nI s) := br_f (nI_pos (by omega)) (br_f (nI_ge (b := 6) hs (by decide)) h)
theorem rd_c1 {P : Int32 → Prop} {s : Nat} (hs : s < 6) (h : P 1) : wpX_isClient P (nI s) := br_f (nI_pos (by omega)) (br_f (nI_ge (b := 6) hs (by decide)) h)
/-- is it a path: both sides say the same -/
theorem ip_loop : ∀ d l p : Nat, l + d = 4 → p < 8 ^ d → ∃ r : Int32, (r = 0 ∨ r = 1) ∧
    (∀ (P : Int32 → Prop) (n : Nat), d < n → P r → wX_isPath_17 P n (nI p) (nI l)) ∧ (∀ (P : Int32 → Prop) (n : Nat), d < n → P r → wY_isPath_15 P n (nI p)) := by
  intro d
  induction d with
  | zero =>
    intro l p hl hp
    have e : p = 0 := by omega
    subst e
    exact ⟨1, Or.inr rfl, fun P n hn h => (by obtain ⟨m, rfl, hm_⟩ := fu_m hn; exact br_t (nI_le (a := 4) (by omega) (by omega)) h), fun P n hn h => (by obtain ⟨m, rfl, hm_⟩ := fu_m hn; exact br_t (by decide) h)⟩
  | succ d ih =>
    intro l p hl hp
    have hp8 : p / 8 < 8 ^ d := by rw [Nat.pow_succ] at hp; omega
    have hd : 8 ^ (d + 1) ≤ 8 ^ 4 := Nat.pow_le_pow_right (by decide) (by omega)
    have hp' : p < 4096 := Nat.lt_of_lt_of_le hp hd
    have hl4 : ¬ (4 : Int32) ≤ nI l := nI_ge (b := 4) (by omega) (by decide)
    obtain ⟨r, h0, hX, hY⟩ := ih (l + 1) (p / 8) (by omega) hp8
    have es : nI p >>> ((3 : Int32) &&& 31) = nI (p / 8) := pk_shrN (by omega) _ 3 (by decide)
    by_cases z : p = 0
    · subst z
      refine ⟨r, h0, fun P n hn h => (by obtain ⟨m, rfl, hm⟩ := fu_m hn; exact br_f hl4 (br_t rfl (nm_r es (nm_r (nI_1 l) (hX P m (by omega) h))))), fun P n hn h => hY P n (by omega) h⟩
    · have zn : ¬ nI p = 0 := nI_ne0 (by omega) (by omega)
      have zl : ¬ nI p ≤ 0 := nI_nle (by omega) (by omega)
      have ea : nI p &&& 7 = nI (p % 8) := pk_andN (by omega) 3 (by decide)
      have er : nI p - nI p / 8 * 8 = nI (p % 8) := pk_rem (d := 8) (by omega) (by decide) (by decide)
      have ed : nI p / 8 = nI (p / 8) := pk_div (d := 8) (by omega) (by decide) (by decide)
      have h8 : ¬ (8 : Int32) = 0 := by decide
      by_cases y : p % 8 = 0
      · have ya : nI p &&& 7 = 0 := by rw [ea, y]; rfl
        have yr : nI p - nI p / 8 * 8 = 0 := by rw [er, y]; rfl
        exact ⟨0, Or.inl rfl, fun P n hn h => (by obtain ⟨m, rfl, hm⟩ := fu_m hn; exact br_f hl4 (br_f zn (br_t ya h))), fun P n hn h => (by obtain ⟨m, rfl, hm⟩ := fu_m hn; exact br_f zl ⟨h8, br_t yr h⟩)⟩
      · have ya : ¬ nI p &&& 7 = 0 := by rw [ea]; exact nI_ne0 (by omega) (by omega)
        have yr : ¬ nI p - nI p / 8 * 8 = 0 := by rw [er]; exact nI_ne0 (by omega) (by omega)
        exact ⟨r, h0, fun P n hn h => (by obtain ⟨m, rfl, hm⟩ := fu_m hn; exact br_f hl4 (br_f zn (br_f ya (nm_r es (nm_r (nI_1 l) (hX P m (by omega) h)))))),
          fun P n hn h => (by obtain ⟨m, rfl, hm⟩ := fu_m hn; exact br_f zl ⟨h8, br_f yr ⟨h8, nm_r ed (hY P m (by omega) h)⟩⟩)⟩
theorem ip_pair (p : Int32) : (∃ j : Nat, j < 4096 ∧ p = nI j ∧ ∃ r : Int32, (r = 0 ∨ r = 1) ∧ (∀ P : Int32 → Prop, P r → wpX_isPath P p) ∧ (∀ P : Int32 → Prop, P r → wpY_isPath P p)) ∨
    ((∀ P : Int32 → Prop, P 0 → wpX_isPath P p) ∧ (∀ P : Int32 → Prop, P 0 → wpY_isPath P p)) := by
  have l1 : ∀ {x : Int32}, nI 4096 ≤ x → 4095 < x := by
    intro x h
    rw [Int32.le_iff_toInt_le, show (nI 4096).toInt = 4096 from by decide] at h
    rw [Int32.lt_iff_toInt_lt, show (4095 : Int32).toInt = 4095 from by decide]
    omega
  rcases pk_ix p (n := 4096) (by decide) with h | h | ⟨j, hj, rfl⟩
  · exact Or.inr ⟨fun P hp => br_t h hp, fun P hp => rd_y0 (Or.inl h) (br_t rfl hp)⟩
  · have h0 : ¬ p < 0 := fun z => Int32.lt_irrefl (Int32.lt_trans (Int32.lt_of_lt_of_le z (by decide : (0 : Int32) ≤ 4095)) (l1 h))
    have h1 : ¬ p < 4096 := Int32.not_lt.mpr h
    exact Or.inr ⟨fun P hp => br_f h0 (br_f h1 hp), fun P hp => rd_y0 (Or.inr (l1 h)) (br_t rfl hp)⟩
  · obtain ⟨r, h0, hX, hY⟩ := ip_loop 4 0 j rfl hj
    exact Or.inl ⟨j, hj, rfl, r, h0, fun P hp => br_f (nI_pos (by omega)) (br_t (nI_lt (b := 4096) hj (by decide)) ⟨5, hX P 5 (by omega) hp⟩),
      fun P hp => rd_yn (a := 0) (b := 4095) (by omega) (by omega) (by decide) (br_f rd_1n0 ⟨5, hY P 5 (by omega) hp⟩)⟩
section
variable (now rc ql nx : Nat) (zae zal zan zat zbr zca zcl zcm zcr zen zfa zfi zho zhs zky zpa zpt zqx zqy zra zre zrp zrs zru zse zsi zsl zso zst zsu zsy zti ztk ztr ztu zup zwe zwl zwo : Nat → Int32) (zto : Nat → Int64)
theorem fr_loop (hr : rc ≤ 12) (p : Int32) : ∀ d j : Nat, j + d = rc → ∃ r : Int32, (r = -1 ∨ ∃ i : Nat, i < rc ∧ r = nI i) ∧
    (∀ (P : Int32 → Prop) (n : Nat), d < n → P r → wX_findRoute_2 P p (nI now) (nI rc) (nI ql) zse zto ztu zwe zsl zpa zbr zup zti zfa zcr zru zsu zfi zrp zrs zca zre ztk zho zhs zst zcl zpt zky zwo zra zcm zen zat zan ztr zae zal zqx n (nI j)) ∧ (∀ (P : Int32 → Prop) (n : Nat), d < n → P r → wY_findRoute_2 P p (nI now) (nI rc) (nI nx) (nI ql) zwe zsl zpa zti zfa zcr zsu zsi zwl zbr zup zrp zrs zse zca zre ztk zho zhs zcl zpt zky zwo zra zsy zat zan ztr zcm zen zae zal zqy zto ztu zso n (nI j)) := by
  intro d
  induction d with
  | zero =>
    intro j hj
    have h : nI rc ≤ nI j := nI_le (by omega) (by omega)
    exact ⟨-1, Or.inl rfl, fun P n hn hp => (by obtain ⟨m, rfl, hm_⟩ := fu_m hn; exact br_t h hp), fun P n hn hp => (by obtain ⟨m, rfl, hm_⟩ := fu_m hn; exact br_t h hp)⟩
  | succ d ih =>
    intro j hj
    have h : ¬ nI rc ≤ nI j := nI_ge (by omega) (by omega)
    have hi : vp_in (nI j) 12 := vp_in_nI (by omega) (by omega)
    by_cases z : zrp (nI j).toNatClampNeg = p
    · exact ⟨nI j, Or.inr ⟨j, by omega, rfl⟩, fun P n hn hp => (by obtain ⟨m, rfl, hm_⟩ := fu_m hn; exact br_f h ⟨hi, br_t z hp⟩), fun P n hn hp => (by obtain ⟨m, rfl, hm_⟩ := fu_m hn; exact br_f h ⟨hi, br_t z hp⟩)⟩
    · obtain ⟨r, h0, hX, hY⟩ := ih (j + 1) (by omega)
      exact ⟨r, h0, fun P n hn hp => (by obtain ⟨m, rfl, hm⟩ := fu_m hn; exact br_f h ⟨hi, br_f z (nm_r (nI_1 j) (hX P m (by omega) hp))⟩), fun P n hn hp => (by obtain ⟨m, rfl, hm⟩ := fu_m hn; exact br_f h ⟨hi, br_f z (nm_r (nI_1 j) (hY P m (by omega) hp))⟩)⟩
theorem fr_pair (hr : rc ≤ 12) (p : Int32) : ∃ r : Int32, (r = -1 ∨ ∃ i : Nat, i < rc ∧ r = nI i) ∧
    (∀ P : Int32 → Prop, P r → wpX_findRoute P (nI now, nI rc, nI ql, zse, zto, ztu, zwe, zsl, zpa, zbr, zup, zti, zfa, zcr, zru, zsu, zfi, zrp, zrs, zca, zre, ztk, zho, zhs, zst, zcl, zpt, zky, zwo, zra, zcm, zen, zat, zan, ztr, zae, zal, zqx) p) ∧ (∀ P : Int32 → Prop, P r → wpY_findRoute P (nI now, nI rc, nI nx, nI ql, zwe, zsl, zpa, zti, zfa, zcr, zsu, zsi, zwl, zbr, zup, zrp, zrs, zse, zca, zre, ztk, zho, zhs, zcl, zpt, zky, zwo, zra, zsy, zat, zan, ztr, zcm, zen, zae, zal, zqy, zto, ztu, zso) p) := by
  obtain ⟨r, h0, hX, hY⟩ := fr_loop now rc ql nx zae zal zan zat zbr zca zcl zcm zcr zen zfa zfi zho zhs zky zpa zpt zqx zqy zra zre zrp zrs zru zse zsi zsl zso zst zsu zsy zti ztk ztr ztu zup zwe zwl zwo zto hr p rc 0 (by omega)
  exact ⟨r, h0, fun P hp => ⟨rc + 1, hX P _ (by omega) hp⟩, fun P hp => ⟨rc + 1, hY P _ (by omega) hp⟩⟩
theorem sv_loop (hr : rc ≤ 12) : ∀ d c p : Nat, c + d = 4 → p < 8 ^ d → ∃ r s : Int32, ((r = -1 ∧ s = -1) ∨ ∃ i : Nat, i < rc ∧ r = nI i ∧ s = zrs i) ∧
    (∀ (P : Int32 → Prop) (n : Nat), d + 1 < n → P r → wX_routeOf_4 P (nI now) (nI rc) (nI ql) zse zto ztu zwe zsl zpa zbr zup zti zfa zcr zru zsu zfi zrp zrs zca zre ztk zho zhs zst zcl zpt zky zwo zra zcm zen zat zan ztr zae zal zqx n (nI p) (nI c)) ∧ (∀ (P : Int32 → Prop) (n : Nat), d < n → P s → wY_serversOf_2 P (nI now) (nI rc) (nI nx) (nI ql) zwe zsl zpa zti zfa zcr zsu zsi zwl zbr zup zrp zrs zse zca zre ztk zho zhs zcl zpt zky zwo zra zsy zat zan ztr zcm zen zae zal zqy zto ztu zso n (nI p)) := by
  intro d
  induction d with
  | zero =>
    intro c p hc hp
    have e : p = 0 := by omega
    subst e
    have hc4 : ¬ (4 : Int32) < nI c := nI_nlt (a := 4) (by omega) (by decide)
    have hc5 : (4 : Int32) < nI (c + 1) := nI_lt (a := 4) (by omega) (by omega)
    have es : nI 0 >>> ((3 : Int32) &&& 31) = nI 0 := by decide
    obtain ⟨r, h0, hX, hY⟩ := fr_pair now rc ql nx zae zal zan zat zbr zca zcl zcm zcr zen zfa zfi zho zhs zky zpa zpt zqx zqy zra zre zrp zrs zru zse zsi zsl zso zst zsu zsy zti ztk ztr ztu zup zwe zwl zwo zto hr (nI 0)
    rcases h0 with rfl | ⟨i, hi, rfl⟩
    · exact ⟨-1, -1, Or.inl ⟨rfl, rfl⟩, fun P n hn h => (by obtain ⟨m, rfl, hm⟩ := fu_m hn; exact br_f hc4 (hX _ (br_t rfl (nm_r es (nm_r (nI_1 c) ((by obtain ⟨m', rfl, hm_⟩ := fu_m (n := m) (d := 0) (show 0 < m by omega); exact br_t hc5 h))))))),
        fun P n hn h => (by obtain ⟨m, rfl, hm⟩ := fu_m hn; exact hY _ (br_t ms_m1 (br_t rfl h)))⟩
    · exact ⟨nI i, zrs i, Or.inr ⟨i, hi, rfl, rfl⟩, fun P n hn h => (by obtain ⟨m, rfl, hm⟩ := fu_m hn; exact br_f hc4 (hX _ (br_f (ms_nI_m1 (by omega)) h))),
        fun P n hn h => (by obtain ⟨m, rfl, hm⟩ := fu_m hn; exact hY _ (br_f (nI_pos (by omega)) ⟨vp_in_nI (by omega) (by omega), by rw [nI_clamp (by omega)]; exact h⟩))⟩
  | succ d ih =>
    intro c p hc hp
    have hp8 : p / 8 < 8 ^ d := by rw [Nat.pow_succ] at hp; omega
    have hd : 8 ^ (d + 1) ≤ 8 ^ 4 := Nat.pow_le_pow_right (by decide) (by omega)
    have hp' : p < 4096 := Nat.lt_of_lt_of_le hp hd
    have hc4 : ¬ (4 : Int32) < nI c := nI_nlt (a := 4) (by omega) (by decide)
    have es : nI p >>> ((3 : Int32) &&& 31) = nI (p / 8) := pk_shrN (by omega) _ 3 (by decide)
    have ed : nI p / 8 = nI (p / 8) := pk_div (d := 8) (by omega) (by decide) (by decide)
    have h8 : ¬ (8 : Int32) = 0 := by decide
    obtain ⟨r, h0, hX, hY⟩ := fr_pair now rc ql nx zae zal zan zat zbr zca zcl zcm zcr zen zfa zfi zho zhs zky zpa zpt zqx zqy zra zre zrp zrs zru zse zsi zsl zso zst zsu zsy zti ztk ztr ztu zup zwe zwl zwo zto hr (nI p)
    rcases h0 with rfl | ⟨i, hi, rfl⟩
    · obtain ⟨r', s', h0', hX', hY'⟩ := ih (c + 1) (p / 8) (by omega) hp8
      refine ⟨r', s', h0', fun P n hn h => (by obtain ⟨m, rfl, hm⟩ := fu_m hn; exact br_f hc4 (hX _ (br_t rfl (nm_r es (nm_r (nI_1 c) (hX' P m (by omega) h)))))), fun P n hn h => ?_⟩
      by_cases z : p = 0
      · subst z
        exact hY' P n (by omega) h
      · exact (by obtain ⟨m, rfl, hm⟩ := fu_m hn; exact hY _ (br_t ms_m1 (br_f (nI_ne0 (by omega) (by omega)) ⟨h8, nm_r ed (hY' P m (by omega) h)⟩)))
    · exact ⟨nI i, zrs i, Or.inr ⟨i, hi, rfl, rfl⟩, fun P n hn h => (by obtain ⟨m, rfl, hm⟩ := fu_m hn; exact br_f hc4 (hX _ (br_f (ms_nI_m1 (by omega)) h))),
        fun P n hn h => (by obtain ⟨m, rfl, hm⟩ := fu_m hn; exact hY _ (br_f (nI_pos (by omega)) ⟨vp_in_nI (by omega) (by omega), by rw [nI_clamp (by omega)]; exact h⟩))⟩
theorem sv_pair (hr : rc ≤ 12) {p : Nat} (hp : p < 4096) : ∃ r s : Int32, ((r = -1 ∧ s = -1) ∨ ∃ i : Nat, i < rc ∧ r = nI i ∧ s = zrs i) ∧
    (∀ P : Int32 → Prop, P r → wpX_routeOf P (nI now, nI rc, nI ql, zse, zto, ztu, zwe, zsl, zpa, zbr, zup, zti, zfa, zcr, zru, zsu, zfi, zrp, zrs, zca, zre, ztk, zho, zhs, zst, zcl, zpt, zky, zwo, zra, zcm, zen, zat, zan, ztr, zae, zal, zqx) (nI p)) ∧ (∀ P : Int32 → Prop, P s → wpY_serversOf P (nI now, nI rc, nI nx, nI ql, zwe, zsl, zpa, zti, zfa, zcr, zsu, zsi, zwl, zbr, zup, zrp, zrs, zse, zca, zre, ztk, zho, zhs, zcl, zpt, zky, zwo, zra, zsy, zat, zan, ztr, zcm, zen, zae, zal, zqy, zto, ztu, zso) (nI p)) := by
  obtain ⟨r, s, h0, hX, hY⟩ := sv_loop now rc ql nx zae zal zan zat zbr zca zcl zcm zcr zen zfa zfi zho zhs zky zpa zpt zqx zqy zra zre zrp zrs zru zse zsi zsl zso zst zsu zsy zti ztk ztr ztu zup zwe zwl zwo zto hr 4 0 p rfl hp
  exact ⟨r, s, h0, fun P h => ⟨6, hX P 6 (by omega) h⟩, fun P h => ⟨5, hY P 5 (by omega) h⟩⟩
theorem rn_loop (hn0 : nx < 2 ^ 31) (h0 : ∀ q, nx ≤ q → q < 32 → zsy q = 0) (s : Int32) (P : Int32 → Prop) (hP : P (nI (rn_cnt zsy zat s 32))) : ∀ d q n : Nat, q + d = 32 → d < n → wY_running_4 P s (nI now) (nI rc) (nI nx) (nI ql) zwe zsl zpa zti zfa zcr zsu zsi zwl zbr zup zrp zrs zse zca zre ztk zho zhs zcl zpt zky zwo zra zsy zat zan ztr zcm zen zae zal zqy zto ztu zso n (nI (rn_cnt zsy zat s q)) (nI q) := by
  intro d
  induction d with
  | zero =>
    intro q n hq hn
    have e : q = 32 := by omega
    subst e
    exact (by obtain ⟨m, rfl, hm_⟩ := fu_m hn; exact br_t (by decide) hP)
  | succ d ih =>
    intro q n hq hn
    have hq32 : ¬ (32 : Int32) ≤ nI q := nI_ge (b := 32) (by omega) (by decide)
    have hi : vp_in (nI q) 32 := vp_in_nI (by omega) (by omega)
    have ec : (nI q).toNatClampNeg = q := nI_clamp (by omega)
    obtain ⟨m, rfl, hm⟩ := fu_m hn
    refine br_f hq32 (pk_le nx q (fun h => ?_) (fun h => ?_))
    · have e : rn_cnt zsy zat s (q + 1) = rn_cnt zsy zat s q := by
        rw [rn_s, if_neg (fun z => absurd ((h0 q h (by omega)).symm.trans z.1) (by decide))]; rfl
      have := ih (q + 1) m (by omega) (by omega)
      rw [e] at this
      exact nm_r (nI_1 q) this
    · refine ⟨hi, ?_⟩
      rw [ec]
      by_cases z : zsy q = 1
      · by_cases y : zat q = s
        · have e : rn_cnt zsy zat s (q + 1) = rn_cnt zsy zat s q + 1 := by rw [rn_s, if_pos ⟨z, y⟩]
          have := ih (q + 1) m (by omega) (by omega)
          rw [e] at this
          exact br_t z ⟨hi, br_t y (nm_r (nI_1 _) (nm_r (nI_1 q) this))⟩
        · have e : rn_cnt zsy zat s (q + 1) = rn_cnt zsy zat s q := by rw [rn_s, if_neg (fun w => y w.2)]; rfl
          have := ih (q + 1) m (by omega) (by omega)
          rw [e] at this
          exact br_t z ⟨hi, br_f y (nm_r (nI_1 q) this)⟩
      · have e : rn_cnt zsy zat s (q + 1) = rn_cnt zsy zat s q := by rw [rn_s, if_neg (fun w => z w.1)]; rfl
        have := ih (q + 1) m (by omega) (by omega)
        rw [e] at this
        exact br_f z (nm_r (nI_1 q) this)
theorem rn_run (hn0 : nx < 2 ^ 31) (h0 : ∀ q, nx ≤ q → q < 32 → zsy q = 0) (s : Int32) (P : Int32 → Prop) (hP : P (nI (rn_cnt zsy zat s 32))) : wpY_running P (nI now, nI rc, nI nx, nI ql, zwe, zsl, zpa, zti, zfa, zcr, zsu, zsi, zwl, zbr, zup, zrp, zrs, zse, zca, zre, ztk, zho, zhs, zcl, zpt, zky, zwo, zra, zsy, zat, zan, ztr, zcm, zen, zae, zal, zqy, zto, ztu, zso) s :=
  ⟨33, rn_loop now rc ql nx zae zal zan zat zbr zca zcl zcm zcr zen zfa zho zhs zky zpa zpt zqy zra zre zrp zrs zse zsi zsl zso zsu zsy zti ztk ztr ztu zup zwe zwl zwo zto hn0 h0 s P hP 32 0 33 rfl (by omega)⟩
end
end
section
/-! readiness: a server is ready for a request -/
theorem ex_t {c A B : Prop} (hc : c) (h : (c → A) ∧ (¬ c → B)) : A := h.1 hc
theorem ex_f {c A B : Prop} (hc : ¬ c) (h : (c → A) ∧ (¬ c → B)) : B := h.2 hc
theorem mk_st {b : Nat → Bool} {i : Nat} (h : b i = true) : mk_m b (i + 1) = mk_m b i ||| ((1 : Int32) <<< (nI i &&& 31)) := if_pos h
theorem mk_sf {b : Nat → Bool} {i : Nat} (h : b i = false) : mk_m b (i + 1) = mk_m b i := if_neg (by rw [h]; exact Bool.false_ne_true)
theorem mk_b1 {b : Nat → Bool} {s : Nat} (h : s < 6) (hb : b s = true) : ((mk_m b 6 >>> (nI s &&& 31)) &&& 1) = 1 := by rw [mk_bit b h, if_pos hb]
theorem mk_b0 {b : Nat → Bool} {s : Nat} (h : s < 6) (hb : b s = false) : ((mk_m b 6 >>> (nI s &&& 31)) &&& 1) = 0 := by rw [mk_bit b h, if_neg (by rw [hb]; exact Bool.false_ne_true)]
theorem mk_b1' {b : Nat → Bool} {s : Nat} (h : s < 6) (hb : b s = true) : ¬ ((mk_m b 6 >>> (nI s &&& 31)) &&& 1) = 0 := by rw [mk_b1 h hb]; decide
theorem mk_b0' {b : Nat → Bool} {s : Nat} (h : s < 6) (hb : b s = false) : ¬ ((mk_m b 6 >>> (nI s &&& 31)) &&& 1) = 1 := by rw [mk_b0 h hb]; decide
def rd_o (now : Nat) (zwe zup zsl zti zru : Nat → Int32) (s : Nat) : Prop := ¬ zwe s = 0 ∧ ¬ zup s = 0 ∧ zru s < zsl s ∧ (zti s = -1 ∨ (¬ nI now < zti s ∧ zru s = 0))
def rd_c (now : Nat) (zwe zup zsl zti zru : Nat → Int32) (sv tr : Int32) (s : Nat) : Prop := ¬ ((sv >>> (nI s &&& 31)) &&& 1) = 0 ∧ ((tr >>> (nI s &&& 31)) &&& 1) = 0 ∧ rd_o now zwe zup zsl zti zru s
noncomputable def rd_b (now : Nat) (zwe zup zsl zti zru : Nat → Int32) (sv tr : Int32) : Nat → Bool := fun s => @decide (rd_c now zwe zup zsl zti zru sv tr s) (Classical.propDecidable _)
theorem rd_bt {now : Nat} {zwe zup zsl zti zru : Nat → Int32} {sv tr : Int32} {s : Nat} (h : rd_c now zwe zup zsl zti zru sv tr s) : rd_b now zwe zup zsl zti zru sv tr s = true := @decide_eq_true _ (Classical.propDecidable _) h
theorem rd_bf {now : Nat} {zwe zup zsl zti zru : Nat → Int32} {sv tr : Int32} {s : Nat} (h : ¬ rd_c now zwe zup zsl zti zru sv tr s) : rd_b now zwe zup zsl zti zru sv tr s = false := @decide_eq_false _ (Classical.propDecidable _) h
section
variable (now rc ql nx : Nat) (zae zal zan zat zbr zca zcl zcm zcr zen zfa zfi zho zhs zky zpa zpt zqx zqy zra zre zrp zrs zru zse zsi zsl zso zst zsu zsy zti ztk ztr ztu zup zwe zwl zwo : Nat → Int32) (zto : Nat → Int64)
theorem op_1 {s : Nat} (hs : s < 6) (h : rd_o now zwe zup zsl zti zru s) (P : Int32 → Prop) (hP : P 1) : wpX_isOpen P (nI now, nI rc, nI ql, zse, zto, ztu, zwe, zsl, zpa, zbr, zup, zti, zfa, zcr, zru, zsu, zfi, zrp, zrs, zca, zre, ztk, zho, zhs, zst, zcl, zpt, zky, zwo, zra, zcm, zen, zat, zan, ztr, zae, zal, zqx) (nI s) := by
  have hi : vp_in (nI s) 6 := vp_in_nI hs (by decide)
  have e : (nI s).toNatClampNeg = s := nI_clamp (by omega)
  obtain ⟨a, b, c, d⟩ := h
  unfold wpX_isOpen
  rw [e]
  refine ⟨hi, br_f a ⟨hi, br_f b ⟨hi, hi, br_t c ⟨hi, ?_⟩⟩⟩⟩
  by_cases z : zti s = -1
  · exact br_t z hP
  · obtain ⟨d1, d2⟩ := d.resolve_left z
    exact br_f z ⟨hi, br_f d1 ⟨hi, br_t d2 hP⟩⟩
theorem op_0 {s : Nat} (hs : s < 6) (h : ¬ rd_o now zwe zup zsl zti zru s) (P : Int32 → Prop) (hP : P 0) : wpX_isOpen P (nI now, nI rc, nI ql, zse, zto, ztu, zwe, zsl, zpa, zbr, zup, zti, zfa, zcr, zru, zsu, zfi, zrp, zrs, zca, zre, ztk, zho, zhs, zst, zcl, zpt, zky, zwo, zra, zcm, zen, zat, zan, ztr, zae, zal, zqx) (nI s) := by
  have hi : vp_in (nI s) 6 := vp_in_nI hs (by decide)
  have e : (nI s).toNatClampNeg = s := nI_clamp (by omega)
  unfold wpX_isOpen
  rw [e]
  by_cases a : zwe s = 0
  · exact ⟨hi, br_t a hP⟩
  by_cases b : zup s = 0
  · exact ⟨hi, br_f a ⟨hi, br_t b hP⟩⟩
  by_cases c : zru s < zsl s
  · by_cases z : zti s = -1
    · exact absurd ⟨a, b, c, Or.inl z⟩ h
    by_cases y : nI now < zti s
    · exact ⟨hi, br_f a ⟨hi, br_f b ⟨hi, hi, br_t c ⟨hi, br_f z ⟨hi, br_t y hP⟩⟩⟩⟩⟩
    by_cases x : zru s = 0
    · exact absurd ⟨a, b, c, Or.inr ⟨y, x⟩⟩ h
    · exact ⟨hi, br_f a ⟨hi, br_f b ⟨hi, hi, br_t c ⟨hi, br_f z ⟨hi, br_f y ⟨hi, br_f x hP⟩⟩⟩⟩⟩⟩
  · exact ⟨hi, br_f a ⟨hi, br_f b ⟨hi, hi, br_f c hP⟩⟩⟩
theorem ry_m {s q : Nat} (hs : s < 6) (hq : q < 32) (hS : ∀ P : Int32 → Prop, P (-1) → wpY_serversOf P (nI now, nI rc, nI nx, nI ql, zwe, zsl, zpa, zti, zfa, zcr, zsu, zsi, zwl, zbr, zup, zrp, zrs, zse, zca, zre, ztk, zho, zhs, zcl, zpt, zky, zwo, zra, zsy, zat, zan, ztr, zcm, zen, zae, zal, zqy, zto, ztu, zso) (zpt q)) (hR : ∀ P : Int32 → Prop, P (zru s) → wpY_running P (nI now, nI rc, nI nx, nI ql, zwe, zsl, zpa, zti, zfa, zcr, zsu, zsi, zwl, zbr, zup, zrp, zrs, zse, zca, zre, ztk, zho, zhs, zcl, zpt, zky, zwo, zra, zsy, zat, zan, ztr, zcm, zen, zae, zal, zqy, zto, ztu, zso) (nI s)) (P : Int32 → Prop) (hP : P 0) : wpY_isReady P (nI now, nI rc, nI nx, nI ql, zwe, zsl, zpa, zti, zfa, zcr, zsu, zsi, zwl, zbr, zup, zrp, zrs, zse, zca, zre, ztk, zho, zhs, zcl, zpt, zky, zwo, zra, zsy, zat, zan, ztr, zcm, zen, zae, zal, zqy, zto, ztu, zso) (nI s) (nI q) := by
  have hqi : vp_in (nI q) 32 := vp_in_nI hq (by decide)
  have eq : (nI q).toNatClampNeg = q := nI_clamp (by omega)
  unfold wpY_isReady
  rw [eq]
  exact ⟨hqi, hS _ (hR _ (br_t ms_m1 hP))⟩
theorem ry_1 {s q : Nat} {sv : Int32} (hs : s < 6) (hq : q < 32) (hsv : 0 ≤ sv) (ht : zti s = -1 ∨ 0 ≤ zti s) (hS : ∀ P : Int32 → Prop, P sv → wpY_serversOf P (nI now, nI rc, nI nx, nI ql, zwe, zsl, zpa, zti, zfa, zcr, zsu, zsi, zwl, zbr, zup, zrp, zrs, zse, zca, zre, ztk, zho, zhs, zcl, zpt, zky, zwo, zra, zsy, zat, zan, ztr, zcm, zen, zae, zal, zqy, zto, ztu, zso) (zpt q)) (hR : ∀ P : Int32 → Prop, P (zru s) → wpY_running P (nI now, nI rc, nI nx, nI ql, zwe, zsl, zpa, zti, zfa, zcr, zsu, zsi, zwl, zbr, zup, zrp, zrs, zse, zca, zre, ztk, zho, zhs, zcl, zpt, zky, zwo, zra, zsy, zat, zan, ztr, zcm, zen, zae, zal, zqy, zto, ztu, zso) (nI s))
    (h : rd_c now zwe zup zsl zti zru sv (ztr q) s) (P : Int32 → Prop) (hP : P 1) : wpY_isReady P (nI now, nI rc, nI nx, nI ql, zwe, zsl, zpa, zti, zfa, zcr, zsu, zsi, zwl, zbr, zup, zrp, zrs, zse, zca, zre, ztk, zho, zhs, zcl, zpt, zky, zwo, zra, zsy, zat, zan, ztr, zcm, zen, zae, zal, zqy, zto, ztu, zso) (nI s) (nI q) := by
  have hi : vp_in (nI s) 6 := vp_in_nI hs (by decide)
  have e : (nI s).toNatClampNeg = s := nI_clamp (by omega)
  have hqi : vp_in (nI q) 32 := vp_in_nI hq (by decide)
  have eq : (nI q).toNatClampNeg = q := nI_clamp (by omega)
  obtain ⟨h1, h2, a, b, c, d⟩ := h
  have t1 : ¬ ((ztr q >>> (nI s &&& 31)) &&& 1) = 1 := by rw [h2]; decide
  unfold wpY_isReady
  rw [eq, e]
  refine ⟨hqi, hS _ (hR _ (br_f (Int32.not_lt.mpr hsv) (br_f h1 ⟨hi, br_f a ⟨hi, br_f b ⟨hi, br_f (Int32.not_le.mpr c) ⟨hqi, br_f t1 ⟨hi, ?_⟩⟩⟩⟩⟩)))⟩
  by_cases z : zti s = -1
  · exact br_t (by rw [z]; exact ms_m1) hP
  · obtain ⟨d1, d2⟩ := d.resolve_left z
    exact br_f (Int32.not_lt.mpr (ht.resolve_left z)) ⟨hi, br_f d1 (br_t d2 hP)⟩
theorem ry_0 {s q : Nat} {sv : Int32} (hs : s < 6) (hq : q < 32) (hsv : 0 ≤ sv) (ht : zti s = -1 ∨ 0 ≤ zti s) (hS : ∀ P : Int32 → Prop, P sv → wpY_serversOf P (nI now, nI rc, nI nx, nI ql, zwe, zsl, zpa, zti, zfa, zcr, zsu, zsi, zwl, zbr, zup, zrp, zrs, zse, zca, zre, ztk, zho, zhs, zcl, zpt, zky, zwo, zra, zsy, zat, zan, ztr, zcm, zen, zae, zal, zqy, zto, ztu, zso) (zpt q)) (hR : ∀ P : Int32 → Prop, P (zru s) → wpY_running P (nI now, nI rc, nI nx, nI ql, zwe, zsl, zpa, zti, zfa, zcr, zsu, zsi, zwl, zbr, zup, zrp, zrs, zse, zca, zre, ztk, zho, zhs, zcl, zpt, zky, zwo, zra, zsy, zat, zan, ztr, zcm, zen, zae, zal, zqy, zto, ztu, zso) (nI s))
    (h : ¬ rd_c now zwe zup zsl zti zru sv (ztr q) s) (P : Int32 → Prop) (hP : P 0) : wpY_isReady P (nI now, nI rc, nI nx, nI ql, zwe, zsl, zpa, zti, zfa, zcr, zsu, zsi, zwl, zbr, zup, zrp, zrs, zse, zca, zre, ztk, zho, zhs, zcl, zpt, zky, zwo, zra, zsy, zat, zan, ztr, zcm, zen, zae, zal, zqy, zto, ztu, zso) (nI s) (nI q) := by
  have hi : vp_in (nI s) 6 := vp_in_nI hs (by decide)
  have e : (nI s).toNatClampNeg = s := nI_clamp (by omega)
  have hqi : vp_in (nI q) 32 := vp_in_nI hq (by decide)
  have eq : (nI q).toNatClampNeg = q := nI_clamp (by omega)
  have hn : ¬ sv < 0 := Int32.not_lt.mpr hsv
  unfold wpY_isReady
  rw [eq, e]
  refine ⟨hqi, hS _ (hR _ (br_f hn ?_))⟩
  by_cases h1 : ((sv >>> (nI s &&& 31)) &&& 1) = 0
  · exact br_t h1 hP
  by_cases a : zwe s = 0
  · exact br_f h1 ⟨hi, br_t a hP⟩
  by_cases b : zup s = 0
  · exact br_f h1 ⟨hi, br_f a ⟨hi, br_t b hP⟩⟩
  by_cases c : zsl s ≤ zru s
  · exact br_f h1 ⟨hi, br_f a ⟨hi, br_f b ⟨hi, br_t c hP⟩⟩⟩
  by_cases t : ((ztr q >>> (nI s &&& 31)) &&& 1) = 1
  · exact br_f h1 ⟨hi, br_f a ⟨hi, br_f b ⟨hi, br_f c ⟨hqi, br_t t hP⟩⟩⟩⟩
  have t0 : ((ztr q >>> (nI s &&& 31)) &&& 1) = 0 := (mk_1 _).resolve_right t
  refine br_f h1 ⟨hi, br_f a ⟨hi, br_f b ⟨hi, br_f c ⟨hqi, br_f t ⟨hi, ?_⟩⟩⟩⟩⟩
  by_cases z : zti s = -1
  · exact absurd ⟨h1, t0, a, b, Int32.not_le.mp c, Or.inl z⟩ h
  by_cases y : nI now < zti s
  · exact br_f (Int32.not_lt.mpr (ht.resolve_left z)) ⟨hi, br_t y hP⟩
  by_cases x : zru s = 0
  · exact absurd ⟨h1, t0, a, b, Int32.not_le.mp c, Or.inr ⟨y, x⟩⟩ h
  · exact br_f (Int32.not_lt.mpr (ht.resolve_left z)) ⟨hi, br_f y (br_f x hP)⟩
theorem ra_loop {q : Nat} (hq : q < 32) (sv : Int32) (P : Int32 → Prop) (hP : P (mk_m (rd_b now zwe zup zsl zti zru sv (ztr q)) 6)) :
    ∀ d s n : Nat, s + d = 6 → d < n → wX_readyAmong_5 P sv (nI q) (nI now) (nI rc) (nI ql) zse zto ztu zwe zsl zpa zbr zup zti zfa zcr zru zsu zfi zrp zrs zca zre ztk zho zhs zst zcl zpt zky zwo zra zcm zen zat zan ztr zae zal zqx n (mk_m (rd_b now zwe zup zsl zti zru sv (ztr q)) s) (nI s) := by
  have hqi : vp_in (nI q) 32 := vp_in_nI hq (by decide)
  have eq : (nI q).toNatClampNeg = q := nI_clamp (by omega)
  intro d
  induction d with
  | zero =>
    intro s n hs hn
    have e : s = 6 := by omega
    subst e
    exact (by obtain ⟨m, rfl, hm_⟩ := fu_m hn; exact br_t (by decide) hP)
  | succ d ih =>
    intro s n hs hn
    have h6 : ¬ (6 : Int32) ≤ nI s := nI_ge (b := 6) (by omega) (by decide)
    obtain ⟨m, rfl, hm⟩ := fu_m hn
    refine br_f h6 ?_
    rw [eq]
    have ih' := ih (s + 1) m (by omega) (by omega)
    by_cases h1 : ((sv >>> (nI s &&& 31)) &&& 1) = 0
    · rw [mk_sf (rd_bf (fun z => z.1 h1))] at ih'
      exact br_t h1 (nm_r (nI_1 s) ih')
    by_cases h2 : ((ztr q >>> (nI s &&& 31)) &&& 1) = 0
    · by_cases h3 : rd_o now zwe zup zsl zti zru s
      · rw [mk_st (rd_bt ⟨h1, h2, h3⟩)] at ih'
        exact br_f h1 ⟨hqi, br_t h2 (op_1 now rc ql zae zal zan zat zbr zca zcl zcm zcr zen zfa zfi zho zhs zky zpa zpt zqx zra zre zrp zrs zru zse zsl zst zsu zti ztk ztr ztu zup zwe zwo zto (by omega) h3 _ (br_f rd_1n0 (nm_e (nm_r (nI_1 s) ih'))))⟩
      · rw [mk_sf (rd_bf (fun z => h3 z.2.2))] at ih'
        exact br_f h1 ⟨hqi, br_t h2 (op_0 now rc ql zae zal zan zat zbr zca zcl zcm zcr zen zfa zfi zho zhs zky zpa zpt zqx zra zre zrp zrs zru zse zsl zst zsu zti ztk ztr ztu zup zwe zwo zto (by omega) h3 _ (br_t rfl (nm_r (nI_1 s) ih')))⟩
    · rw [mk_sf (rd_bf (fun z => h2 z.2.1))] at ih'
      exact br_f h1 ⟨hqi, br_f h2 (nm_r (nI_1 s) ih')⟩
theorem ra_run {q : Nat} (hq : q < 32) (sv : Int32) (P : Int32 → Prop) (hP : P (mk_m (rd_b now zwe zup zsl zti zru sv (ztr q)) 6)) : wpX_readyAmong P (nI now, nI rc, nI ql, zse, zto, ztu, zwe, zsl, zpa, zbr, zup, zti, zfa, zcr, zru, zsu, zfi, zrp, zrs, zca, zre, ztk, zho, zhs, zst, zcl, zpt, zky, zwo, zra, zcm, zen, zat, zan, ztr, zae, zal, zqx) sv (nI q) :=
  ⟨7, ra_loop now rc ql zae zal zan zat zbr zca zcl zcm zcr zen zfa zfi zho zhs zky zpa zpt zqx zra zre zrp zrs zru zse zsl zst zsu zti ztk ztr ztu zup zwe zwo zto hq sv P hP 6 0 7 rfl (by omega)⟩
theorem cy_loop {q : Nat} (b : Nat → Bool) (hb1 : ∀ s, s < 6 → b s = true → ∀ P : Int32 → Prop, P 1 → wpY_isReady P (nI now, nI rc, nI nx, nI ql, zwe, zsl, zpa, zti, zfa, zcr, zsu, zsi, zwl, zbr, zup, zrp, zrs, zse, zca, zre, ztk, zho, zhs, zcl, zpt, zky, zwo, zra, zsy, zat, zan, ztr, zcm, zen, zae, zal, zqy, zto, ztu, zso) (nI s) (nI q)) (hb0 : ∀ s, s < 6 → b s = false → ∀ P : Int32 → Prop, P 0 → wpY_isReady P (nI now, nI rc, nI nx, nI ql, zwe, zsl, zpa, zti, zfa, zcr, zsu, zsi, zwl, zbr, zup, zrp, zrs, zse, zca, zre, ztk, zho, zhs, zcl, zpt, zky, zwo, zra, zsy, zat, zan, ztr, zcm, zen, zae, zal, zqy, zto, ztu, zso) (nI s) (nI q))
    (P : Int32 → SY → Prop) (h : wY_choose_4 P (nI q) (nI now) (nI rc) (nI nx) (nI ql) zwe zsl zpa zti zfa zcr zsu zsi zwl zbr zup zrp zrs zse zca zre ztk zho zhs zcl zpt zky zwo zra zsy zat zan ztr zcm zen zae zal zqy zto ztu zso 1 (mk_m b 6) (nI 6)) : ∀ d s n : Nat, s + d = 6 → d < n → wY_choose_4 P (nI q) (nI now) (nI rc) (nI nx) (nI ql) zwe zsl zpa zti zfa zcr zsu zsi zwl zbr zup zrp zrs zse zca zre ztk zho zhs zcl zpt zky zwo zra zsy zat zan ztr zcm zen zae zal zqy zto ztu zso n (mk_m b s) (nI s) := by
  intro d
  induction d with
  | zero =>
    intro s n hs hn
    have e : s = 6 := by omega
    subst e
    exact (by obtain ⟨m, rfl, hm_⟩ := fu_m hn; exact br_t (by decide) (ex_t (by decide) h))
  | succ d ih =>
    intro s n hs hn
    have h6 : ¬ (6 : Int32) ≤ nI s := nI_ge (b := 6) (by omega) (by decide)
    obtain ⟨m, rfl, hm⟩ := fu_m hn
    refine br_f h6 ?_
    have ih' := ih (s + 1) m (by omega) (by omega)
    cases e : b s with
    | true =>
      rw [mk_st e] at ih'
      exact hb1 s (by omega) e _ (br_f rd_1n0 (nm_e (nm_r (nI_1 s) ih')))
    | false =>
      rw [mk_sf e] at ih'
      exact hb0 s (by omega) e _ (br_t rfl (nm_r (nI_1 s) ih'))
end
end
section
/-! the three ways to choose -/
/-- what a choice among the bits of b may answer -/
def ch_ok (b : Nat → Bool) (r : Int32) : Prop := r = -1 ∨ ∃ c : Nat, c < 6 ∧ b c = true ∧ r = nI c
section
variable (now rc ql nx : Nat) (zae zal zan zat zbr zca zcl zcm zcr zen zfa zfi zho zhs zky zpa zpt zqx zqy zra zre zrp zrs zru zse zsi zsl zso zst zsu zsy zti ztk ztr ztu zup zwe zwl zwo : Nat → Int32) (zto : Nat → Int64)
theorem tn_loop (b : Nat → Bool) : ∀ d s : Nat, s + d = 6 → ∀ (best sum : Int32) (cr : Nat → Int32), ((best = -1 ∧ (∀ j, j < s → b j = false) ∧ cr = zcr) ∨ ∃ c : Nat, c < 6 ∧ b c = true ∧ best = nI c) →
    ∃ (r : Int32) (cr' : Nat → Int32), ((r = -1 ∧ (∀ j, j < 6 → b j = false) ∧ cr' = zcr) ∨ ∃ c : Nat, c < 6 ∧ b c = true ∧ r = nI c) ∧
    (∀ (P : Int32 → SX → Prop) (n : Nat), d < n → P r (nI now, nI rc, nI ql, zse, zto, ztu, zwe, zsl, zpa, zbr, zup, zti, zfa, cr', zru, zsu, zfi, zrp, zrs, zca, zre, ztk, zho, zhs, zst, zcl, zpt, zky, zwo, zra, zcm, zen, zat, zan, ztr, zae, zal, zqx) → wX_chooseByTurns_7 P (mk_m b 6) (nI now) (nI rc) (nI ql) n best sum (nI s) zse zto ztu zwe zsl zpa zbr zup zti zfa cr zru zsu zfi zrp zrs zca zre ztk zho zhs zst zcl zpt zky zwo zra zcm zen zat zan ztr zae zal zqx) ∧
    (¬ r = -1 → ∀ (P : Int32 → SY → Prop) (n : Nat), d < n → P r (nI now, nI rc, nI nx, nI ql, zwe, zsl, zpa, zti, zfa, cr', zsu, zsi, zwl, zbr, zup, zrp, zrs, zse, zca, zre, ztk, zho, zhs, zcl, zpt, zky, zwo, zra, zsy, zat, zan, ztr, zcm, zen, zae, zal, zqy, zto, ztu, zso) → wY_turns_7 P (mk_m b 6) (nI now) (nI rc) (nI nx) (nI ql) n sum best (nI s) zwe zsl zpa zti zfa cr zsu zsi zwl zbr zup zrp zrs zse zca zre ztk zho zhs zcl zpt zky zwo zra zsy zat zan ztr zcm zen zae zal zqy zto ztu zso) := by
  intro d
  induction d with
  | zero =>
    intro s hs best sum cr hb
    have e : s = 6 := by omega
    subst e
    rcases hb with ⟨rfl, h2, rfl⟩ | ⟨c, hc, hbc, rfl⟩
    · exact ⟨-1, cr, Or.inl ⟨rfl, h2, rfl⟩, fun P n hn hp => (by obtain ⟨m, rfl, hm_⟩ := fu_m hn; exact br_t (by decide) (br_t rfl hp)), fun z => absurd rfl z⟩
    · have hi : vp_in (nI c) 6 := vp_in_nI hc (by decide)
      exact ⟨nI c, upd cr (nI c).toNatClampNeg (cr (nI c).toNatClampNeg - sum), Or.inr ⟨c, hc, hbc, rfl⟩, fun P n hn hp => (by obtain ⟨m, rfl, hm_⟩ := fu_m hn; exact br_t (by decide) (br_f (ms_nI_m1 (by omega)) ⟨hi, hi, nm_e hp⟩)),
        fun _ P n hn hp => (by obtain ⟨m, rfl, hm_⟩ := fu_m hn; exact br_t (by decide) ⟨hi, hi, nm_e hp⟩)⟩
  | succ d ih =>
    intro s hs best sum cr hb
    have hs6 : s < 6 := by omega
    have h6 : ¬ (6 : Int32) ≤ nI s := nI_ge (b := 6) hs6 (by decide)
    have hi : vp_in (nI s) 6 := vp_in_nI hs6 (by decide)
    cases eb : b s with
    | false =>
      have zb := mk_b0 hs6 eb
      have hb' : (best = -1 ∧ (∀ j, j < s + 1 → b j = false) ∧ cr = zcr) ∨ ∃ c : Nat, c < 6 ∧ b c = true ∧ best = nI c := by
        rcases hb with ⟨h1, h2, h3⟩ | h
        · exact Or.inl ⟨h1, lt_s h2 eb, h3⟩
        · exact Or.inr h
      obtain ⟨r, cr', h0, hX, hY⟩ := ih (s + 1) (by omega) best sum cr hb'
      exact ⟨r, cr', h0, fun P n hn hp => (by obtain ⟨m, rfl, hm⟩ := fu_m hn; exact br_f h6 (br_t zb (nm_r (nI_1 s) (hX P m (by omega) hp)))),
        fun hr P n hn hp => (by obtain ⟨m, rfl, hm⟩ := fu_m hn; exact br_f h6 (br_t zb (nm_r (nI_1 s) (hY hr P m (by omega) hp))))⟩
    | true =>
      have zb := mk_b1' hs6 eb
      rcases hb with ⟨rfl, h2, h3⟩ | ⟨c, hc, hbc, rfl⟩
      · obtain ⟨r, cr', h0, hX, hY⟩ := ih (s + 1) (by omega) (nI s) (sum + zwe (nI s).toNatClampNeg) (upd cr (nI s).toNatClampNeg (cr (nI s).toNatClampNeg + zwe (nI s).toNatClampNeg)) (Or.inr ⟨s, hs6, eb, rfl⟩)
        exact ⟨r, cr', h0, fun P n hn hp => (by obtain ⟨m, rfl, hm⟩ := fu_m hn; exact br_f h6 (br_f zb ⟨hi, hi, hi, nm_e ⟨hi, nm_e (br_t rfl (nm_r (nI_1 s) (hX P m (by omega) hp)))⟩⟩)),
          fun hr P n hn hp => (by obtain ⟨m, rfl, hm⟩ := fu_m hn; exact br_f h6 (br_f zb ⟨hi, hi, hi, nm_e ⟨hi, nm_e (br_t ms_m1 (nm_r (nI_1 s) (hY hr P m (by omega) hp)))⟩⟩))⟩
      · have hci : vp_in (nI c) 6 := vp_in_nI hc (by decide)
        by_cases z : (upd cr (nI s).toNatClampNeg (cr (nI s).toNatClampNeg + zwe (nI s).toNatClampNeg)) (nI s).toNatClampNeg ≤ (upd cr (nI s).toNatClampNeg (cr (nI s).toNatClampNeg + zwe (nI s).toNatClampNeg)) (nI c).toNatClampNeg
        · obtain ⟨r, cr', h0, hX, hY⟩ := ih (s + 1) (by omega) (nI c) (sum + zwe (nI s).toNatClampNeg) (upd cr (nI s).toNatClampNeg (cr (nI s).toNatClampNeg + zwe (nI s).toNatClampNeg)) (Or.inr ⟨c, hc, hbc, rfl⟩)
          exact ⟨r, cr', h0, fun P n hn hp => (by obtain ⟨m, rfl, hm⟩ := fu_m hn; exact br_f h6 (br_f zb ⟨hi, hi, hi, nm_e ⟨hi, nm_e (br_f (ms_nI_m1 (by omega)) ⟨hi, hci, br_t z (nm_r (nI_1 s) (hX P m (by omega) hp))⟩)⟩⟩)),
            fun hr P n hn hp => (by obtain ⟨m, rfl, hm⟩ := fu_m hn; exact br_f h6 (br_f zb ⟨hi, hi, hi, nm_e ⟨hi, nm_e (br_f (nI_pos (by omega)) ⟨hi, hci, br_t z (nm_r (nI_1 s) (hY hr P m (by omega) hp))⟩)⟩⟩))⟩
        · obtain ⟨r, cr', h0, hX, hY⟩ := ih (s + 1) (by omega) (nI s) (sum + zwe (nI s).toNatClampNeg) (upd cr (nI s).toNatClampNeg (cr (nI s).toNatClampNeg + zwe (nI s).toNatClampNeg)) (Or.inr ⟨s, hs6, eb, rfl⟩)
          exact ⟨r, cr', h0, fun P n hn hp => (by obtain ⟨m, rfl, hm⟩ := fu_m hn; exact br_f h6 (br_f zb ⟨hi, hi, hi, nm_e ⟨hi, nm_e (br_f (ms_nI_m1 (by omega)) ⟨hi, hci, br_f z (nm_r (nI_1 s) (hX P m (by omega) hp))⟩)⟩⟩)),
            fun hr P n hn hp => (by obtain ⟨m, rfl, hm⟩ := fu_m hn; exact br_f h6 (br_f zb ⟨hi, hi, hi, nm_e ⟨hi, nm_e (br_f (nI_pos (by omega)) ⟨hi, hci, br_f z (nm_r (nI_1 s) (hY hr P m (by omega) hp))⟩)⟩⟩))⟩
theorem le_loop (b : Nat → Bool) (hR : ∀ s, s < 6 → ∀ P : Int32 → Prop, P (zru s) → wpY_running P (nI now, nI rc, nI nx, nI ql, zwe, zsl, zpa, zti, zfa, zcr, zsu, zsi, zwl, zbr, zup, zrp, zrs, zse, zca, zre, ztk, zho, zhs, zcl, zpt, zky, zwo, zra, zsy, zat, zan, ztr, zcm, zen, zae, zal, zqy, zto, ztu, zso) (nI s)) : ∀ d s : Nat, s + d = 6 → ∀ best : Int32, ch_ok b best →
    ∃ r : Int32, ch_ok b r ∧ (∀ (P : Int32 → Prop) (n : Nat), d < n → P r → wX_chooseLeast_4 P (mk_m b 6) (nI now) (nI rc) (nI ql) zse zto ztu zwe zsl zpa zbr zup zti zfa zcr zru zsu zfi zrp zrs zca zre ztk zho zhs zst zcl zpt zky zwo zra zcm zen zat zan ztr zae zal zqx n best (nI s)) ∧
    (∀ (P : Int32 → Prop) (n : Nat), d < n → P r → wY_least_4 P (mk_m b 6) (nI now) (nI rc) (nI nx) (nI ql) zwe zsl zpa zti zfa zcr zsu zsi zwl zbr zup zrp zrs zse zca zre ztk zho zhs zcl zpt zky zwo zra zsy zat zan ztr zcm zen zae zal zqy zto ztu zso n best (nI s)) := by
  intro d
  induction d with
  | zero =>
    intro s hs best hb
    have e : s = 6 := by omega
    subst e
    exact ⟨best, hb, fun P n hn hp => (by obtain ⟨m, rfl, hm_⟩ := fu_m hn; exact br_t (by decide) hp), fun P n hn hp => (by obtain ⟨m, rfl, hm_⟩ := fu_m hn; exact br_t (by decide) hp)⟩
  | succ d ih =>
    intro s hs best hb
    have hs6 : s < 6 := by omega
    have h6 : ¬ (6 : Int32) ≤ nI s := nI_ge (b := 6) hs6 (by decide)
    have hi : vp_in (nI s) 6 := vp_in_nI hs6 (by decide)
    have es : (nI s).toNatClampNeg = s := nI_clamp (by omega)
    cases eb : b s with
    | false =>
      have zb := mk_b0 hs6 eb
      obtain ⟨r, h0, hX, hY⟩ := ih (s + 1) (by omega) best hb
      exact ⟨r, h0, fun P n hn hp => (by obtain ⟨m, rfl, hm⟩ := fu_m hn; exact br_f h6 (br_t zb (nm_r (nI_1 s) (hX P m (by omega) hp)))),
        fun P n hn hp => (by obtain ⟨m, rfl, hm⟩ := fu_m hn; exact br_f h6 (br_t zb (nm_r (nI_1 s) (hY P m (by omega) hp))))⟩
    | true =>
      have zb := mk_b1' hs6 eb
      rcases hb with rfl | ⟨c, hc, hbc, rfl⟩
      · obtain ⟨r, h0, hX, hY⟩ := ih (s + 1) (by omega) (nI s) (Or.inr ⟨s, hs6, eb, rfl⟩)
        exact ⟨r, h0, fun P n hn hp => (by obtain ⟨m, rfl, hm⟩ := fu_m hn; exact br_f h6 (br_f zb (br_t rfl (nm_r (nI_1 s) (hX P m (by omega) hp))))),
          fun P n hn hp => (by obtain ⟨m, rfl, hm⟩ := fu_m hn; exact br_f h6 (br_f zb (br_t ms_m1 (nm_r (nI_1 s) (hY P m (by omega) hp)))))⟩
      · have hci : vp_in (nI c) 6 := vp_in_nI hc (by decide)
        have ec : (nI c).toNatClampNeg = c := nI_clamp (by omega)
        by_cases z : zru c * zwe s ≤ zru s * zwe c
        · obtain ⟨r, h0, hX, hY⟩ := ih (s + 1) (by omega) (nI c) (Or.inr ⟨c, hc, hbc, rfl⟩)
          exact ⟨r, h0, fun P n hn hp => (by obtain ⟨m, rfl, hm⟩ := fu_m hn; exact br_f h6 (br_f zb (br_f (ms_nI_m1 (by omega)) ⟨hi, hci, hci, hi, by rw [es, ec]; exact br_t z (nm_r (nI_1 s) (hX P m (by omega) hp))⟩))),
            fun P n hn hp => (by obtain ⟨m, rfl, hm⟩ := fu_m hn; exact br_f h6 (br_f zb (br_f (nI_pos (by omega)) (hR s hs6 _ ⟨hci, hR c hc _ ⟨hi, by rw [es, ec]; exact br_t z (nm_r (nI_1 s) (hY P m (by omega) hp))⟩⟩))))⟩
        · obtain ⟨r, h0, hX, hY⟩ := ih (s + 1) (by omega) (nI s) (Or.inr ⟨s, hs6, eb, rfl⟩)
          exact ⟨r, h0, fun P n hn hp => (by obtain ⟨m, rfl, hm⟩ := fu_m hn; exact br_f h6 (br_f zb (br_f (ms_nI_m1 (by omega)) ⟨hi, hci, hci, hi, by rw [es, ec]; exact br_f z (nm_r (nI_1 s) (hX P m (by omega) hp))⟩))),
            fun P n hn hp => (by obtain ⟨m, rfl, hm⟩ := fu_m hn; exact br_f h6 (br_f zb (br_f (nI_pos (by omega)) (hR s hs6 _ ⟨hci, hR c hc _ ⟨hi, by rw [es, ec]; exact br_f z (nm_r (nI_1 s) (hY P m (by omega) hp))⟩⟩))))⟩
end
theorem rg_ex1 (b : Nat → Bool) (w : Nat → Nat) (key S : Nat) (hb : b S = true) : ∀ m, m ≤ w S → ∀ c d, rg_B b w key S c d → ∃ c' d', rg_I b w key S m c' d' := by
  intro m
  induction m with
  | zero => intro _ c d h; exact ⟨c, d, rg_in h⟩
  | succ m ih =>
    intro hm c d h
    obtain ⟨c', d', h'⟩ := ih (by omega) c d h
    by_cases z : d' ≤ rg_D key S m
    · exact ⟨c', d', rg_no h' z⟩
    · exact ⟨_, _, rg_yes h' hb (by omega) (by omega)⟩
theorem rg_ex (b : Nat → Bool) (w : Nat → Nat) (key : Nat) : ∀ S, ∃ c d, rg_B b w key S c d := by
  intro S
  induction S with
  | zero => exact ⟨_, _, rg_B0 b w key⟩
  | succ S ih =>
    obtain ⟨c, d, h⟩ := ih
    cases e : b S with
    | false => exact ⟨c, d, rg_skip h e⟩
    | true =>
      obtain ⟨c', d', h'⟩ := rg_ex1 b w key S e (w S) (Nat.le_refl _) c d h
      exact ⟨c', d', rg_out h'⟩
theorem rg_dle {b : Nat → Bool} {w : Nat → Nat} {key S d d' : Nat} {c c' : Int32} (h : rg_B b w key S c d) (h' : rg_B b w key S c' d') : d ≤ d' := by
  obtain ⟨a1, a2, a3, a4⟩ := h
  obtain ⟨b1, b2, b3, b4⟩ := h'
  by_cases z : d' < 256
  · obtain ⟨e, he, _, be, ⟨j, hj, hd⟩, _⟩ := b4 z
    have := a2 e he be j hj
    omega
  · omega
theorem rg_uni {b : Nat → Bool} {w : Nat → Nat} {key S d d' : Nat} {c c' : Int32} (h : rg_B b w key S c d) (h' : rg_B b w key S c' d') : c = c' := by
  have e1 := rg_dle h h'
  have e2 := rg_dle h' h
  have e : d = d' := by omega
  subst e
  obtain ⟨a1, a2, a3, a4⟩ := h
  obtain ⟨b1, b2, b3, b4⟩ := h'
  by_cases z : d < 256
  · obtain ⟨e, he, ce, be, ⟨j, hj, hd⟩, hl⟩ := a4 z
    obtain ⟨e', he', ce', be', ⟨j', hj', hd'⟩, hl'⟩ := b4 z
    have x1 : ¬ e < e' := fun x => by have := hl' e x be j hj; omega
    have x2 : ¬ e' < e := fun x => by have := hl e' x be' j' hj'; omega
    rw [ce, ce', show e = e' from by omega]
  · rw [a3 (by omega), b3 (by omega)]
end
section
/-! the ring -/
section
variable (now rc ql nx : Nat) (zae zal zan zat zbr zca zcl zcm zcr zen zfa zfi zho zhs zky zpa zpt zqx zqy zra zre zrp zrs zru zse zsi zsl zso zst zsu zsy zti ztk ztr ztu zup zwe zwl zwo : Nat → Int32) (zto : Nat → Int64)
theorem rx_in (b : Nat → Bool) (w : Nat → Nat) (hw : ∀ s, s < 6 → w s < 10 ∧ zwe s = nI (w s)) {key S : Nat} (hk : key < 256) (hS : S < 6) (hb : b S = true) (P : Int32 → Prop) (J : Int32 → Int32 → Int32 → Prop)
    (hJ : ∀ c d, rg_B b w key (S + 1) c d → J c (nI d) (nI (S + 1))) : ∀ e j : Nat, j + e = w S → ∀ (c : Int32) (d n : Nat), rg_I b w key S j c d → e < n → wX_chooseOnRing_29 P J (mk_m b 6) (nI key) (nI S) (nI now) (nI rc) (nI ql) zse zto ztu zwe zsl zpa zbr zup zti zfa zcr zru zsu zfi zrp zrs zca zre ztk zho zhs zst zcl zpt zky zwo zra zcm zen zat zan ztr zae zal zqx n c (nI d) (nI j) := by
  have hi : vp_in (nI S) 6 := vp_in_nI hS (by decide)
  have es : (nI S).toNatClampNeg = S := nI_clamp (by omega)
  have hw1 := (hw S hS).1
  have hw2 := (hw S hS).2
  intro e
  induction e with
  | zero =>
    intro j hj c d n h hn
    have ej : j = w S := by omega
    subst ej
    obtain ⟨m, rfl, hm⟩ := fu_m hn
    refine ⟨hi, ?_⟩
    rw [es, hw2]
    exact br_t Int32.le_rfl (nm_r (nI_1 S) (hJ c d (rg_out h)))
  | succ e ih =>
    intro j hj c d n h hn
    have hd := h.1
    have hl := rg_D_lt key S j
    have e1 : ((nI S * 37 + nI j * 101) + 17) * 59 = nI (rg_P S j) := rg_pt S j
    have e2 : (nI (rg_P S j) - nI key) &&& 255 = nI (rg_D key S j) := rg_dx hS (by omega) hk
    obtain ⟨m, rfl, hm⟩ := fu_m hn
    refine ⟨hi, ?_⟩
    rw [es, hw2]
    refine br_f (nI_ge (by omega) (by omega)) (nm_r e1 (nm_r e2 (pk_le d (rg_D key S j) (fun z => ?_) (fun z => ?_))))
    · exact nm_r (nI_1 j) (ih (j + 1) (by omega) c d m (rg_no h z) (by omega))
    · exact nm_r (nI_1 j) (ih (j + 1) (by omega) (nI S) (rg_D key S j) m (rg_yes h hb (by omega) z) (by omega))
theorem rx_out (b : Nat → Bool) (w : Nat → Nat) (hw : ∀ s, s < 6 → w s < 10 ∧ zwe s = nI (w s)) {key : Nat} (hk : key < 256) (P : Int32 → Prop)
    (hP : ∀ c d, rg_B b w key 6 c d → P c) : ∀ e S : Nat, S + e = 6 → ∀ (c : Int32) (d n : Nat), rg_B b w key S c d → e < n → wX_chooseOnRing_10 P (mk_m b 6) (nI key) (nI now) (nI rc) (nI ql) zse zto ztu zwe zsl zpa zbr zup zti zfa zcr zru zsu zfi zrp zrs zca zre ztk zho zhs zst zcl zpt zky zwo zra zcm zen zat zan ztr zae zal zqx n c (nI d) (nI S) := by
  intro e
  induction e with
  | zero =>
    intro S hS c d n h hn
    have e6 : S = 6 := by omega
    subst e6
    exact (by obtain ⟨m, rfl, hm_⟩ := fu_m hn; exact br_t (by decide) (hP c d h))
  | succ e ih =>
    intro S hS c d n h hn
    have hs6 : S < 6 := by omega
    have h6 : ¬ (6 : Int32) ≤ nI S := nI_ge (b := 6) hs6 (by decide)
    obtain ⟨m, rfl, hm⟩ := fu_m hn
    refine br_f h6 ?_
    cases eb : b S with
    | false => exact br_t (mk_b0 hs6 eb) (nm_r (nI_1 S) (ih (S + 1) (by omega) c d m (rg_skip h eb) (by omega)))
    | true => exact br_f (mk_b1' hs6 eb) ⟨w S + 1, rx_in now rc ql zae zal zan zat zbr zca zcl zcm zcr zen zfa zfi zho zhs zky zpa zpt zqx zra zre zrp zrs zru zse zsl zst zsu zti ztk ztr ztu zup zwe zwo zto b w hw hk hs6 eb P _ (fun c' d' h' => ih (S + 1) (by omega) c' d' m h' (by omega)) (w S) 0 (by omega) c d _ (rg_in h) (by omega)⟩
/-- j runs over the points of S, none is at k -/
theorem ry_pass (b : Nat → Bool) (w : Nat → Nat) (hw : ∀ s, s < 6 → w s < 10 ∧ zwe s = nI (w s)) {key k S : Nat} (hk : key < 256) (hk' : k < 256) (hS : S < 6) (hno : b S = true → ∀ j, j < w S → rg_D key S j ≠ k) (P : Int32 → Prop) (J2 J21 : Int32 → Prop)
    (hJ : J21 (nI (S + 1))) : ∀ e j : Nat, j + e = w S → ∀ n : Nat, e < n → wY_ring_31 P J2 J21 (mk_m b 6) (nI key) (nI k) (nI ((key + k) % 256)) (nI S) (nI now) (nI rc) (nI nx) (nI ql) zwe zsl zpa zti zfa zcr zsu zsi zwl zbr zup zrp zrs zse zca zre ztk zho zhs zcl zpt zky zwo zra zsy zat zan ztr zcm zen zae zal zqy zto ztu zso n (nI j) := by
  have hi : vp_in (nI S) 6 := vp_in_nI hS (by decide)
  have es : (nI S).toNatClampNeg = S := nI_clamp (by omega)
  have hw1 := (hw S hS).1
  have hw2 := (hw S hS).2
  have h256 : ¬ (256 : Int32) = 0 := by decide
  intro e
  induction e with
  | zero =>
    intro j hj n hn
    have ej : j = w S := by omega
    subst ej
    obtain ⟨m, rfl, hm⟩ := fu_m hn
    refine ⟨hi, ?_⟩
    rw [es, hw2]
    exact br_t Int32.le_rfl (nm_r (nI_1 S) hJ)
  | succ e ih =>
    intro j hj n hn
    obtain ⟨m, rfl, hm⟩ := fu_m hn
    refine ⟨hi, ?_⟩
    rw [es, hw2]
    refine br_f (nI_ge (by omega) (by omega)) ?_
    cases eb : b S with
    | false => exact br_f (mk_b0' hS eb) (nm_r (nI_1 j) (ih (j + 1) (by omega) m (by omega)))
    | true =>
      have hlo := rg_lo S j
      have hhi := rg_hi (s := S) (j := j) hS (by omega)
      have e1 : ((nI S * 37 + nI j * 101) + 17) * 59 = nI (rg_P S j) := rg_pt S j
      have e2 : nI (rg_P S j) - nI (rg_P S j) / 256 * 256 = nI (rg_P S j % 256) := pk_rem (d := 256) (by omega) (by decide) (by decide)
      refine br_t (mk_b1 hS eb) ⟨h256, ?_⟩
      rw [e1, e2]
      exact br_f (fun z => hno eb j (by omega) ((rg_m hk hk').mp ((nI_eq (by omega) (by omega)).mp z))) (nm_r (nI_1 j) (ih (j + 1) (by omega) m (by omega)))
theorem ry_hit (b : Nat → Bool) (w : Nat → Nat) (hw : ∀ s, s < 6 → w s < 10 ∧ zwe s = nI (w s)) {key k S : Nat} (hk : key < 256) (hk' : k < 256) (hS : S < 6) (hb : b S = true) (P : Int32 → Prop) (J2 J21 : Int32 → Prop)
    (hP : P (nI S)) : ∀ e j : Nat, (∃ i, i = j + e ∧ i < w S ∧ rg_D key S i = k) → ∀ n : Nat, e < n → wY_ring_31 P J2 J21 (mk_m b 6) (nI key) (nI k) (nI ((key + k) % 256)) (nI S) (nI now) (nI rc) (nI nx) (nI ql) zwe zsl zpa zti zfa zcr zsu zsi zwl zbr zup zrp zrs zse zca zre ztk zho zhs zcl zpt zky zwo zra zsy zat zan ztr zcm zen zae zal zqy zto ztu zso n (nI j) := by
  have hi : vp_in (nI S) 6 := vp_in_nI hS (by decide)
  have es : (nI S).toNatClampNeg = S := nI_clamp (by omega)
  have hw1 := (hw S hS).1
  have hw2 := (hw S hS).2
  have h256 : ¬ (256 : Int32) = 0 := by decide
  intro e
  induction e with
  | zero =>
    intro j hj n hn
    obtain ⟨i, hij, hiw, hd⟩ := hj
    rw [show i = j from by omega] at hiw hd
    have hlo := rg_lo S j
    have hhi := rg_hi (s := S) (j := j) hS (by omega)
    have e1 : ((nI S * 37 + nI j * 101) + 17) * 59 = nI (rg_P S j) := rg_pt S j
    have e2 : nI (rg_P S j) - nI (rg_P S j) / 256 * 256 = nI (rg_P S j % 256) := pk_rem (d := 256) (by omega) (by decide) (by decide)
    obtain ⟨m, rfl, hm⟩ := fu_m hn
    refine ⟨hi, ?_⟩
    rw [es, hw2]
    refine br_f (nI_ge (by omega) (by omega)) (br_t (mk_b1 hS hb) ⟨h256, ?_⟩)
    rw [e1, e2]
    exact br_t (congrArg nI ((rg_m hk hk').mpr hd)) hP
  | succ e ih =>
    intro j hj n hn
    obtain ⟨i, hij, hiw, hd⟩ := hj
    have hlo := rg_lo S j
    have hhi := rg_hi (s := S) (j := j) hS (by omega)
    have e1 : ((nI S * 37 + nI j * 101) + 17) * 59 = nI (rg_P S j) := rg_pt S j
    have e2 : nI (rg_P S j) - nI (rg_P S j) / 256 * 256 = nI (rg_P S j % 256) := pk_rem (d := 256) (by omega) (by decide) (by decide)
    obtain ⟨m, rfl, hm⟩ := fu_m hn
    refine ⟨hi, ?_⟩
    rw [es, hw2]
    refine br_f (nI_ge (by omega) (by omega)) (br_t (mk_b1 hS hb) ⟨h256, ?_⟩)
    rw [e1, e2]
    by_cases z : nI (rg_P S j % 256) = nI ((key + k) % 256)
    · exact br_t z hP
    · exact br_f z (nm_r (nI_1 j) (ih (j + 1) ⟨i, by omega, hiw, hd⟩ m (by omega)))
theorem rz_pass (b : Nat → Bool) (w : Nat → Nat) (hw : ∀ s, s < 6 → w s < 10 ∧ zwe s = nI (w s)) {key k : Nat} (hk : key < 256) (hk' : k < 256) (hno : ∀ s, s < 6 → b s = true → ∀ j, j < w s → rg_D key s j ≠ k) (P : Int32 → Prop) (J2 : Int32 → Prop)
    (hJ : J2 (nI (k + 1))) : ∀ e S : Nat, S + e = 6 → ∀ n : Nat, e < n → wY_ring_21 P J2 (mk_m b 6) (nI key) (nI k) (nI ((key + k) % 256)) (nI now) (nI rc) (nI nx) (nI ql) zwe zsl zpa zti zfa zcr zsu zsi zwl zbr zup zrp zrs zse zca zre ztk zho zhs zcl zpt zky zwo zra zsy zat zan ztr zcm zen zae zal zqy zto ztu zso n (nI S) := by
  intro e
  induction e with
  | zero =>
    intro S hS n hn
    have e6 : S = 6 := by omega
    subst e6
    exact (by obtain ⟨m, rfl, hm_⟩ := fu_m hn; exact br_t (by decide) (nm_r (nI_1 k) hJ))
  | succ e ih =>
    intro S hS n hn
    have hs6 : S < 6 := by omega
    have h6 : ¬ (6 : Int32) ≤ nI S := nI_ge (b := 6) hs6 (by decide)
    exact (by obtain ⟨m, rfl, hm⟩ := fu_m hn; exact br_f h6 ⟨w S + 1, ry_pass now rc ql nx zae zal zan zat zbr zca zcl zcm zcr zen zfa zho zhs zky zpa zpt zqy zra zre zrp zrs zse zsi zsl zso zsu zsy zti ztk ztr ztu zup zwe zwl zwo zto b w hw hk hk' hs6 (hno S hs6) P J2 _ (ih (S + 1) (by omega) m (by omega)) (w S) 0 (by omega) _ (by omega)⟩)
theorem rz_hit (b : Nat → Bool) (w : Nat → Nat) (hw : ∀ s, s < 6 → w s < 10 ∧ zwe s = nI (w s)) {key k E : Nat} (hk : key < 256) (hk' : k < 256) (hE : E < 6) (hb : b E = true) (hj : ∃ j, j < w E ∧ rg_D key E j = k) (hno : ∀ s, s < E → b s = true → ∀ j, j < w s → rg_D key s j ≠ k) (P : Int32 → Prop) (J2 : Int32 → Prop)
    (hP : P (nI E)) : ∀ e S : Nat, S + e = E → ∀ n : Nat, e < n → wY_ring_21 P J2 (mk_m b 6) (nI key) (nI k) (nI ((key + k) % 256)) (nI now) (nI rc) (nI nx) (nI ql) zwe zsl zpa zti zfa zcr zsu zsi zwl zbr zup zrp zrs zse zca zre ztk zho zhs zcl zpt zky zwo zra zsy zat zan ztr zcm zen zae zal zqy zto ztu zso n (nI S) := by
  intro e
  induction e with
  | zero =>
    intro S hS n hn
    have eS : S = E := by omega
    subst eS
    obtain ⟨j, hj1, hj2⟩ := hj
    exact (by obtain ⟨m, rfl, hm_⟩ := fu_m hn; exact br_f (nI_ge (b := 6) hE (by decide)) ⟨j + 1, ry_hit now rc ql nx zae zal zan zat zbr zca zcl zcm zcr zen zfa zho zhs zky zpa zpt zqy zra zre zrp zrs zse zsi zsl zso zsu zsy zti ztk ztr ztu zup zwe zwl zwo zto b w hw hk hk' hE hb P J2 _ hP j 0 ⟨j, by omega, hj1, hj2⟩ _ (by omega)⟩)
  | succ e ih =>
    intro S hS n hn
    have hs6 : S < 6 := by omega
    have h6 : ¬ (6 : Int32) ≤ nI S := nI_ge (b := 6) hs6 (by decide)
    exact (by obtain ⟨m, rfl, hm⟩ := fu_m hn; exact br_f h6 ⟨w S + 1, ry_pass now rc ql nx zae zal zan zat zbr zca zcl zcm zcr zen zfa zho zhs zky zpa zpt zqy zra zre zrp zrs zse zsi zsl zso zsu zsy zti ztk ztr ztu zup zwe zwl zwo zto b w hw hk hk' hs6 (hno S (by omega)) P J2 _ (ih (S + 1) (by omega) m (by omega)) (w S) 0 (by omega) _ (by omega)⟩)
theorem rz_loop (b : Nat → Bool) (w : Nat → Nat) (hw : ∀ s, s < 6 → w s < 10 ∧ zwe s = nI (w s)) {key d : Nat} {c : Int32} (hk : key < 256) (h : rg_B b w key 6 c d) (P : Int32 → Prop)
    (hP : P c) : ∀ e k : Nat, k + e = d → ∀ n : Nat, e < n → wY_ring_2 P (mk_m b 6) (nI key) (nI now) (nI rc) (nI nx) (nI ql) zwe zsl zpa zti zfa zcr zsu zsi zwl zbr zup zrp zrs zse zca zre ztk zho zhs zcl zpt zky zwo zra zsy zat zan ztr zcm zen zae zal zqy zto ztu zso n (nI k) := by
  obtain ⟨h1, h2, h3, h4⟩ := h
  have h256 : ¬ (256 : Int32) = 0 := by decide
  intro e
  induction e with
  | zero =>
    intro k hkd n hn
    have ek : k = d := by omega
    subst ek
    by_cases z : k < 256
    · have er : (nI key + nI k) - (nI key + nI k) / 256 * 256 = nI ((key + k) % 256) := by rw [nI_add]; exact pk_rem (d := 256) (by omega) (by decide) (by decide)
      obtain ⟨E, hE, rfl, hb, hj, hno⟩ := h4 z
      exact (by obtain ⟨m, rfl, hm_⟩ := fu_m hn; exact br_f (nI_ge (b := 256) z (by decide)) ⟨h256, nm_r er ⟨E + 1, rz_hit now rc ql nx zae zal zan zat zbr zca zcl zcm zcr zen zfa zho zhs zky zpa zpt zqy zra zre zrp zrs zse zsi zsl zso zsu zsy zti ztk ztr ztu zup zwe zwl zwo zto b w hw hk z hE hb hj (fun s hs bs j hj' => Nat.ne_of_gt (hno s hs bs j hj')) P _ hP E 0 (by omega) _ (by omega)⟩⟩)
    · have e6 : k = 256 := by omega
      subst e6
      rw [h3 rfl] at hP
      exact (by obtain ⟨m, rfl, hm_⟩ := fu_m hn; exact br_t (by decide) hP)
  | succ e ih =>
    intro k hkd n hn
    have z : k < 256 := by omega
    have er : (nI key + nI k) - (nI key + nI k) / 256 * 256 = nI ((key + k) % 256) := by rw [nI_add]; exact pk_rem (d := 256) (by omega) (by decide) (by decide)
    exact (by obtain ⟨m, rfl, hm⟩ := fu_m hn; exact br_f (nI_ge (b := 256) z (by decide)) ⟨h256, nm_r er ⟨7, rz_pass now rc ql nx zae zal zan zat zbr zca zcl zcm zcr zen zfa zho zhs zky zpa zpt zqy zra zre zrp zrs zse zsi zsl zso zsu zsy zti ztk ztr ztu zup zwe zwl zwo zto b w hw hk z (fun s hs bs j hj => fun x => by have := h2 s hs bs j hj; omega) P _ (ih (k + 1) (by omega) m (by omega)) 6 0 rfl _ (by omega)⟩⟩)
theorem rg_pair (b : Nat → Bool) (w : Nat → Nat) (hw : ∀ s, s < 6 → w s < 10 ∧ zwe s = nI (w s)) {key : Nat} (hk : key < 256) : ∃ r : Int32, ch_ok b r ∧
    (∀ P : Int32 → Prop, P r → wpX_chooseOnRing P (nI now, nI rc, nI ql, zse, zto, ztu, zwe, zsl, zpa, zbr, zup, zti, zfa, zcr, zru, zsu, zfi, zrp, zrs, zca, zre, ztk, zho, zhs, zst, zcl, zpt, zky, zwo, zra, zcm, zen, zat, zan, ztr, zae, zal, zqx) (mk_m b 6) (nI key)) ∧ (∀ P : Int32 → Prop, P r → wpY_ring P (nI now, nI rc, nI nx, nI ql, zwe, zsl, zpa, zti, zfa, zcr, zsu, zsi, zwl, zbr, zup, zrp, zrs, zse, zca, zre, ztk, zho, zhs, zcl, zpt, zky, zwo, zra, zsy, zat, zan, ztr, zcm, zen, zae, zal, zqy, zto, ztu, zso) (mk_m b 6) (nI key)) := by
  obtain ⟨c, d, h⟩ := rg_ex b w key 6
  refine ⟨c, ?_, fun P hp => ⟨7, rx_out now rc ql zae zal zan zat zbr zca zcl zcm zcr zen zfa zfi zho zhs zky zpa zpt zqx zra zre zrp zrs zru zse zsl zst zsu zti ztk ztr ztu zup zwe zwo zto b w hw hk P (fun c' d' h' => by rw [← rg_uni h h']; exact hp) 6 0 rfl (-1) 256 7 (rg_B0 b w key) (by omega)⟩,
    fun P hp => ⟨d + 1, rz_loop now rc ql nx zae zal zan zat zbr zca zcl zcm zcr zen zfa zho zhs zky zpa zpt zqy zra zre zrp zrs zse zsi zsl zso zsu zsy zti ztk ztr ztu zup zwe zwl zwo zto b w hw hk h P hp d 0 (by omega) _ (by omega)⟩⟩
  by_cases z : d < 256
  · obtain ⟨e, he, ce, be, _⟩ := h.2.2.2 z
    exact Or.inr ⟨e, he, be, ce⟩
  · exact Or.inl (h.2.2.1 (by have := h.1; omega))
end
end
section
/-! choose, attempt -/
section
variable (now rc ql nx : Nat) (zae zal zan zat zbr zca zcl zcm zcr zen zfa zfi zho zhs zky zpa zpt zqx zqy zra zre zrp zrs zru zse zsi zsl zso zst zsu zsy zti ztk ztr ztu zup zwe zwl zwo : Nat → Int32) (zto : Nat → Int64)
theorem po_pair (b : Nat → Bool) (w : Nat → Nat) (hw : ∀ s, s < 6 → w s < 10 ∧ zwe s = nI (w s)) (hR : ∀ s, s < 6 → ∀ P : Int32 → Prop, P (zru s) → wpY_running P (nI now, nI rc, nI nx, nI ql, zwe, zsl, zpa, zti, zfa, zcr, zsu, zsi, zwl, zbr, zup, zrp, zrs, zse, zca, zre, ztk, zho, zhs, zcl, zpt, zky, zwo, zra, zsy, zat, zan, ztr, zcm, zen, zae, zal, zqy, zto, ztu, zso) (nI s)) {q key : Nat} (hq : q < 32) (hk : key < 256) (hky : zky q = nI key) :
    ∃ (r : Int32) (cr' : Nat → Int32), ((r = -1 ∧ cr' = zcr) ∨ ∃ c : Nat, c < 6 ∧ b c = true ∧ r = nI c) ∧
    (∀ P : Int32 → SX → Prop, P r (nI now, nI rc, nI ql, zse, zto, ztu, zwe, zsl, zpa, zbr, zup, zti, zfa, cr', zru, zsu, zfi, zrp, zrs, zca, zre, ztk, zho, zhs, zst, zcl, zpt, zky, zwo, zra, zcm, zen, zat, zan, ztr, zae, zal, zqx) → wX_choose_64 P (mk_m b 6) (nI q) (nI now) (nI rc) (nI ql) zse zto ztu zwe zsl zpa zbr zup zti zfa zcr zru zsu zfi zrp zrs zca zre ztk zho zhs zst zcl zpt zky zwo zra zcm zen zat zan ztr zae zal zqx) ∧
    (¬ mk_m b 6 = 0 → ∀ P : Int32 → SY → Prop, P r (nI now, nI rc, nI nx, nI ql, zwe, zsl, zpa, zti, zfa, cr', zsu, zsi, zwl, zbr, zup, zrp, zrs, zse, zca, zre, ztk, zho, zhs, zcl, zpt, zky, zwo, zra, zsy, zat, zan, ztr, zcm, zen, zae, zal, zqy, zto, ztu, zso) → wY_choose_100 P (nI q) (mk_m b 6) (nI now) (nI rc) (nI nx) (nI ql) zwe zsl zpa zti zfa zcr zsu zsi zwl zbr zup zrp zrs zse zca zre ztk zho zhs zcl zpt zky zwo zra zsy zat zan ztr zcm zen zae zal zqy zto ztu zso) := by
  have hqi : vp_in (nI q) 32 := vp_in_nI hq (by decide)
  have eq : zky (nI q).toNatClampNeg = nI key := by rw [nI_clamp (by omega)]; exact hky
  by_cases z0 : zse 0 = 0
  · obtain ⟨r, cr', h0, hX, hY⟩ := tn_loop now rc ql nx zae zal zan zat zbr zca zcl zcm zcr zen zfa zfi zho zhs zky zpa zpt zqx zqy zra zre zrp zrs zru zse zsi zsl zso zst zsu zsy zti ztk ztr ztu zup zwe zwl zwo zto b 6 0 rfl (-1) 0 zcr (Or.inl ⟨rfl, fun j hj => absurd hj (Nat.not_lt_zero _), rfl⟩)
    refine ⟨r, cr', h0.imp (fun h => ⟨h.1, h.2.2⟩) id, fun P hp => nm_e (br_t z0 ⟨7, hX _ 7 (by omega) hp⟩), fun hz P hp => br_t z0 ⟨7, hY ?_ _ 7 (by omega) hp⟩⟩
    intro hr
    rcases h0 with ⟨_, h, _⟩ | ⟨c, hc, _, e⟩
    · exact hz (mk_0.mpr h)
    · exact ms_nI_m1 (by omega) (e.symm.trans hr)
  by_cases z1 : zse 0 = 1
  · obtain ⟨r, h0, hX, hY⟩ := le_loop now rc ql nx zae zal zan zat zbr zca zcl zcm zcr zen zfa zfi zho zhs zky zpa zpt zqx zqy zra zre zrp zrs zru zse zsi zsl zso zst zsu zsy zti ztk ztr ztu zup zwe zwl zwo zto b hR 6 0 rfl (-1) (Or.inl rfl)
    exact ⟨r, zcr, h0.imp (fun h => ⟨h, rfl⟩) id, fun P hp => nm_e (br_f z0 (br_t z1 ⟨7, hX _ 7 (by omega) hp⟩)), fun _ P hp => br_f z0 (br_t z1 ⟨7, hY _ 7 (by omega) hp⟩)⟩
  · obtain ⟨r, h0, hX, hY⟩ := rg_pair now rc ql nx zae zal zan zat zbr zca zcl zcm zcr zen zfa zfi zho zhs zky zpa zpt zqx zqy zra zre zrp zrs zru zse zsi zsl zso zst zsu zsy zti ztk ztr ztu zup zwe zwl zwo zto b w hw hk
    refine ⟨r, zcr, h0.imp (fun h => ⟨h, rfl⟩) id, fun P hp => nm_e (br_f z0 (br_f z1 ⟨hqi, ?_⟩)), fun _ P hp => br_f z0 (br_f z1 ⟨hqi, ?_⟩)⟩
    · rw [eq]; exact hX _ hp
    · rw [eq]; exact hY _ hp
theorem ch_pair (b : Nat → Bool) (w : Nat → Nat) (hw : ∀ s, s < 6 → w s < 10 ∧ zwe s = nI (w s)) (hR : ∀ s, s < 6 → ∀ P : Int32 → Prop, P (zru s) → wpY_running P (nI now, nI rc, nI nx, nI ql, zwe, zsl, zpa, zti, zfa, zcr, zsu, zsi, zwl, zbr, zup, zrp, zrs, zse, zca, zre, ztk, zho, zhs, zcl, zpt, zky, zwo, zra, zsy, zat, zan, ztr, zcm, zen, zae, zal, zqy, zto, ztu, zso) (nI s)) {q key cl : Nat} (hq : q < 32) (hk : key < 256) (hky : zky q = nI key)
    (hc6 : cl < 6) (hcl : zcl q = nI cl) (hho : zho cl = -1 ∨ ∃ h : Nat, h < 6 ∧ zho cl = nI h) (hst : 0 ≤ zse 6) :
    ∃ (r : Int32) (cr' : Nat → Int32), ((r = -1 ∧ cr' = zcr) ∨ ∃ c : Nat, c < 6 ∧ r = nI c) ∧
    (∀ P : Int32 → SX → Prop, P r (nI now, nI rc, nI ql, zse, zto, ztu, zwe, zsl, zpa, zbr, zup, zti, zfa, cr', zru, zsu, zfi, zrp, zrs, zca, zre, ztk, zho, zhs, zst, zcl, zpt, zky, zwo, zra, zcm, zen, zat, zan, ztr, zae, zal, zqx) → wpX_choose P (nI now, nI rc, nI ql, zse, zto, ztu, zwe, zsl, zpa, zbr, zup, zti, zfa, zcr, zru, zsu, zfi, zrp, zrs, zca, zre, ztk, zho, zhs, zst, zcl, zpt, zky, zwo, zra, zcm, zen, zat, zan, ztr, zae, zal, zqx) (mk_m b 6) (nI q)) ∧
    (∀ P : Int32 → SY → Prop, P r (nI now, nI rc, nI nx, nI ql, zwe, zsl, zpa, zti, zfa, cr', zsu, zsi, zwl, zbr, zup, zrp, zrs, zse, zca, zre, ztk, zho, zhs, zcl, zpt, zky, zwo, zra, zsy, zat, zan, ztr, zcm, zen, zae, zal, zqy, zto, ztu, zso) → wY_choose_4 P (nI q) (nI now) (nI rc) (nI nx) (nI ql) zwe zsl zpa zti zfa zcr zsu zsi zwl zbr zup zrp zrs zse zca zre ztk zho zhs zcl zpt zky zwo zra zsy zat zan ztr zcm zen zae zal zqy zto ztu zso 1 (mk_m b 6) (nI 6)) := by
  have hqi : vp_in (nI q) 32 := vp_in_nI hq (by decide)
  have hci : vp_in (nI cl) 6 := vp_in_nI hc6 (by decide)
  have eX : zcl (nI q).toNatClampNeg = nI cl := by rw [nI_clamp (by omega)]; exact hcl
  have eH : (nI cl).toNatClampNeg = cl := nI_clamp (by omega)
  have l66 : (6 : Int32) ≤ nI 6 := by decide
  obtain ⟨r, cr', h0, hX, hY⟩ := po_pair now rc ql nx zae zal zan zat zbr zca zcl zcm zcr zen zfa zfi zho zhs zky zpa zpt zqx zqy zra zre zrp zrs zru zse zsi zsl zso zst zsu zsy zti ztk ztr ztu zup zwe zwl zwo zto b w hw hR hq hk hky
  have h0' : (r = -1 ∧ cr' = zcr) ∨ ∃ c : Nat, c < 6 ∧ r = nI c := h0.imp id (fun ⟨c, a, _, d⟩ => ⟨c, a, d⟩)
  by_cases hz : mk_m b 6 = 0
  · have hb := mk_0.mp hz
    have hr : r = -1 ∧ cr' = zcr := by
      rcases h0 with h | ⟨c, hc, hbc, _⟩
      · exact h
      · rw [hb c hc] at hbc; exact absurd hbc Bool.false_ne_true
    refine ⟨r, cr', h0', fun P hp => ?_, fun P hp => br_t l66 (br_t hz (by rw [hr.1, hr.2] at hp; exact hp))⟩
    rcases hho with hm | ⟨h, hh, hm⟩
    · exact ⟨hqi, nm_r eX ⟨hci, nm_r (show zho (nI cl).toNatClampNeg = -1 by rw [eH]; exact hm) (br_t rfl (hX P hp))⟩⟩
    · exact ⟨hqi, nm_r eX ⟨hci, nm_r (show zho (nI cl).toNatClampNeg = nI h by rw [eH]; exact hm) (br_f (ms_nI_m1 (by omega)) (br_t (mk_b0 hh (hb h hh)) (hX P hp)))⟩⟩
  · rcases hho with hm | ⟨h, hh, hm⟩
    · have eh : zho (nI cl).toNatClampNeg = -1 := by rw [eH]; exact hm
      refine ⟨r, cr', h0', fun P hp => ⟨hqi, nm_r eX ⟨hci, nm_r eh (br_t rfl (hX P hp))⟩⟩, fun P hp => br_t l66 (br_f hz ⟨hqi, ?_⟩)⟩
      rw [eX]
      exact ⟨hci, nm_r eh (br_t ms_m1 (hY hz P hp))⟩
    · have eh : zho (nI cl).toNatClampNeg = nI h := by rw [eH]; exact hm
      have hn1 : ¬ nI h = -1 := ms_nI_m1 (by omega)
      have hn0 : ¬ nI h < 0 := nI_pos (by omega)
      cases bh : b h with
      | false =>
        refine ⟨r, cr', h0', fun P hp => ⟨hqi, nm_r eX ⟨hci, nm_r eh (br_f hn1 (br_t (mk_b0 hh bh) (hX P hp)))⟩⟩, fun P hp => br_t l66 (br_f hz ⟨hqi, ?_⟩)⟩
        rw [eX]
        exact ⟨hci, nm_r eh (br_f hn0 (br_f (mk_b0' hh bh) (hY hz P hp)))⟩
      | true =>
        by_cases s0 : zse 6 = 0
        · have s0' : zse 6 ≤ 0 := by rw [s0]; exact Int32.le_rfl
          refine ⟨r, cr', h0', fun P hp => ⟨hqi, nm_r eX ⟨hci, nm_r eh (br_f hn1 (br_f (mk_b1' hh bh) (br_t s0 (hX P hp))))⟩⟩, fun P hp => br_t l66 (br_f hz ⟨hqi, ?_⟩)⟩
          rw [eX]
          exact ⟨hci, nm_r eh (br_f hn0 (br_t (mk_b1 hh bh) (br_t s0' (hY hz P hp))))⟩
        · have s0' : ¬ zse 6 ≤ 0 := fun z => s0 (Int32.le_antisymm z hst)
          by_cases y : zse 6 < nI now - zhs (nI cl).toNatClampNeg
          · refine ⟨r, cr', h0', fun P hp => ⟨hqi, nm_r eX ⟨hci, nm_r eh (br_f hn1 (br_f (mk_b1' hh bh) (br_f s0 ⟨hci, br_t y (hX P hp)⟩)))⟩⟩, fun P hp => br_t l66 (br_f hz ⟨hqi, ?_⟩)⟩
            rw [eX]
            exact ⟨hci, nm_r eh (br_f hn0 (br_t (mk_b1 hh bh) (br_f s0' ⟨hqi, hci, br_t y (hY hz P hp)⟩)))⟩
          · refine ⟨nI h, zcr, Or.inr ⟨h, hh, rfl⟩, fun P hp => ⟨hqi, nm_r eX ⟨hci, nm_r eh (br_f hn1 (br_f (mk_b1' hh bh) (br_f s0 ⟨hci, br_f y hp⟩)))⟩⟩, fun P hp => br_t l66 (br_f hz ⟨hqi, ?_⟩)⟩
            rw [eX]
            exact ⟨hci, nm_r eh (br_f hn0 (br_t (mk_b1 hh bh) (br_f s0' ⟨hqi, hci, br_f y hp⟩)))⟩
theorem ax_113 {q c : Nat} (hq : q < 32) (hc : c < 6) (z0 z1 : Int32) (P : Int32 → SX → Prop)
    (hP : P 1 (nI now, nI rc, nI ql, zse, zto, ztu, zwe, zsl, zpa, zbr, zup, zti, zfa, zcr, upd zru c (zru c + 1), zsu, zfi, zrp, zrs, zca, zre, ztk, zho, zhs, upd zst q 1, zcl, zpt, zky, zwo, zra, zcm, zen, upd zat q (nI c), upd zan (nI q).toNatClampNeg (zan (nI q).toNatClampNeg + 1), upd ztr (nI q).toNatClampNeg (ztr (nI q).toNatClampNeg ||| ((1 : Int32) <<< (nI c &&& 31))), upd zae (nI q).toNatClampNeg (z1 + z0), zal, zqx)) :
    wX_attempt_113 P (nI q) (nI c) z0 z1 (nI q) (nI now) (nI rc) (nI ql) zse zto ztu zwe zsl zpa zbr zup zti zfa zcr zru zsu zfi zrp zrs zca zre ztk zho zhs zst zcl zpt zky zwo zra zcm zen zat zan ztr zae zal zqx := by
  have hqi : vp_in (nI q) 32 := vp_in_nI hq (by decide)
  have hci : vp_in (nI c) 6 := vp_in_nI hc (by decide)
  have eq : (nI q).toNatClampNeg = q := nI_clamp (by omega)
  have ec : (nI c).toNatClampNeg = c := nI_clamp (by omega)
  have es : upd zst (nI q).toNatClampNeg 1 = upd zst q 1 := by rw [eq]
  have ea : upd zat (nI q).toNatClampNeg (nI c) = upd zat q (nI c) := by rw [eq]
  have er : upd zru (nI c).toNatClampNeg (zru (nI c).toNatClampNeg + 1) = upd zru c (zru c + 1) := by rw [ec]
  exact ⟨hqi, nm_e ⟨hqi, nm_r es ⟨hqi, nm_r ea ⟨hqi, hqi, nm_e ⟨hqi, hqi, nm_e ⟨hci, hci, nm_r er hP⟩⟩⟩⟩⟩⟩
theorem ay_75 {q c : Nat} (hq : q < 32) (z0 z1 : Int32) (P : Int32 → SY → Prop)
    (hP : P 1 (nI now, nI rc, nI nx, nI ql, zwe, zsl, zpa, zti, zfa, zcr, zsu, zsi, zwl, zbr, zup, zrp, zrs, zse, zca, zre, ztk, zho, zhs, zcl, zpt, zky, zwo, zra, upd zsy q 1, upd zat q (nI c), upd zan (nI q).toNatClampNeg (zan (nI q).toNatClampNeg + 1), upd ztr (nI q).toNatClampNeg (ztr (nI q).toNatClampNeg ||| ((1 : Int32) <<< (nI c &&& 31))), zcm, zen, upd zae (nI q).toNatClampNeg (z1 + z0), zal, zqy, zto, ztu, zso)) :
    wY_attempt_75 P (nI q) (nI c) z0 z1 (nI q) (nI now) (nI rc) (nI nx) (nI ql) zwe zsl zpa zti zfa zcr zsu zsi zwl zbr zup zrp zrs zse zca zre ztk zho zhs zcl zpt zky zwo zra zsy zat zan ztr zcm zen zae zal zqy zto ztu zso := by
  have hqi : vp_in (nI q) 32 := vp_in_nI hq (by decide)
  have eq : (nI q).toNatClampNeg = q := nI_clamp (by omega)
  have es : upd zsy (nI q).toNatClampNeg 1 = upd zsy q 1 := by rw [eq]
  have ea : upd zat (nI q).toNatClampNeg (nI c) = upd zat q (nI c) := by rw [eq]
  exact ⟨hqi, nm_e ⟨hqi, nm_r es ⟨hqi, nm_r ea ⟨hqi, hqi, nm_e ⟨hqi, hqi, nm_e hP⟩⟩⟩⟩⟩
end
section
variable (now rc ql nx : Nat) (zae zal zan zat zbr zca zcl zcm zcr zen zfa zfi zho zhs zky zpa zpt zqx zqy zra zre zrp zrs zru zse zsi zsl zso zst zsu zsy zti ztk ztr ztu zup zwe zwl zwo : Nat → Int32) (zto : Nat → Int64)
theorem am_pair (hset : iv_set zse) (hcli : iv_cli zre zho) (hsrv : iv_srv zwe zti) (hrt : iv_rt rc zrs) (hnx : nx < 2 ^ 31) (h0 : ∀ q, nx ≤ q → q < 32 → zsy q = 0) (hru : ∀ s, s < 6 → zru s = nI (rn_cnt zsy zat (nI s) 32))
    {q : Nat} (hq : q < 32) (hcl : ∃ c : Nat, c < 6 ∧ zcl q = nI c) (hky : ∃ k : Nat, k < 256 ∧ zky q = nI k) (hpt : ∃ p : Nat, p < 4096 ∧ zpt q = nI p) :
    ((∀ P : Int32 → SX → Prop, P 0 (nI now, nI rc, nI ql, zse, zto, ztu, zwe, zsl, zpa, zbr, zup, zti, zfa, zcr, zru, zsu, zfi, zrp, zrs, zca, zre, ztk, zho, zhs, zst, zcl, zpt, zky, zwo, zra, zcm, zen, zat, zan, ztr, zae, zal, zqx) → wpX_attempt P (nI now, nI rc, nI ql, zse, zto, ztu, zwe, zsl, zpa, zbr, zup, zti, zfa, zcr, zru, zsu, zfi, zrp, zrs, zca, zre, ztk, zho, zhs, zst, zcl, zpt, zky, zwo, zra, zcm, zen, zat, zan, ztr, zae, zal, zqx) (nI q)) ∧ (∀ P : Int32 → SY → Prop, P 0 (nI now, nI rc, nI nx, nI ql, zwe, zsl, zpa, zti, zfa, zcr, zsu, zsi, zwl, zbr, zup, zrp, zrs, zse, zca, zre, ztk, zho, zhs, zcl, zpt, zky, zwo, zra, zsy, zat, zan, ztr, zcm, zen, zae, zal, zqy, zto, ztu, zso) → wpY_attempt P (nI now, nI rc, nI nx, nI ql, zwe, zsl, zpa, zti, zfa, zcr, zsu, zsi, zwl, zbr, zup, zrp, zrs, zse, zca, zre, ztk, zho, zhs, zcl, zpt, zky, zwo, zra, zsy, zat, zan, ztr, zcm, zen, zae, zal, zqy, zto, ztu, zso) (nI q))) ∨
    ∃ (s : Nat) (cr' al' ae' an' tr' : Nat → Int32), s < 6 ∧
      (∀ P : Int32 → SX → Prop, P 1 (nI now, nI rc, nI ql, zse, zto, ztu, zwe, zsl, zpa, zbr, zup, zti, zfa, cr', upd zru s (zru s + 1), zsu, zfi, zrp, zrs, zca, zre, ztk, zho, zhs, upd zst q 1, zcl, zpt, zky, zwo, zra, zcm, zen, upd zat q (nI s), an', tr', ae', al', zqx) → wpX_attempt P (nI now, nI rc, nI ql, zse, zto, ztu, zwe, zsl, zpa, zbr, zup, zti, zfa, zcr, zru, zsu, zfi, zrp, zrs, zca, zre, ztk, zho, zhs, zst, zcl, zpt, zky, zwo, zra, zcm, zen, zat, zan, ztr, zae, zal, zqx) (nI q)) ∧
      (∀ P : Int32 → SY → Prop, P 1 (nI now, nI rc, nI nx, nI ql, zwe, zsl, zpa, zti, zfa, cr', zsu, zsi, zwl, zbr, zup, zrp, zrs, zse, zca, zre, ztk, zho, zhs, zcl, zpt, zky, zwo, zra, upd zsy q 1, upd zat q (nI s), an', tr', zcm, zen, ae', al', zqy, zto, ztu, zso) → wpY_attempt P (nI now, nI rc, nI nx, nI ql, zwe, zsl, zpa, zti, zfa, zcr, zsu, zsi, zwl, zbr, zup, zrp, zrs, zse, zca, zre, ztk, zho, zhs, zcl, zpt, zky, zwo, zra, zsy, zat, zan, ztr, zcm, zen, zae, zal, zqy, zto, ztu, zso) (nI q)) := by
  have hr12 : rc ≤ 12 := hrt.1
  obtain ⟨cl, hc6, hcl⟩ := hcl
  obtain ⟨key, hk, hky⟩ := hky
  obtain ⟨p, hp, hpt⟩ := hpt
  have hqi : vp_in (nI q) 32 := vp_in_nI hq (by decide)
  have eq : (nI q).toNatClampNeg = q := nI_clamp (by omega)
  have ept : zpt (nI q).toNatClampNeg = nI p := by rw [eq]; exact hpt
  have hR : ∀ s, s < 6 → ∀ P : Int32 → Prop, P (zru s) → wpY_running P (nI now, nI rc, nI nx, nI ql, zwe, zsl, zpa, zti, zfa, zcr, zsu, zsi, zwl, zbr, zup, zrp, zrs, zse, zca, zre, ztk, zho, zhs, zcl, zpt, zky, zwo, zra, zsy, zat, zan, ztr, zcm, zen, zae, zal, zqy, zto, ztu, zso) (nI s) := fun s hs P hP => rn_run now rc ql nx zae zal zan zat zbr zca zcl zcm zcr zen zfa zho zhs zky zpa zpt zqy zra zre zrp zrs zse zsi zsl zso zsu zsy zti ztk ztr ztu zup zwe zwl zwo zto hnx h0 (nI s) P (by rw [← hru s hs]; exact hP)
  have l66 : (6 : Int32) ≤ nI 6 := by decide
  obtain ⟨r, sv, hrs, hX, hY⟩ := sv_pair now rc ql nx zae zal zan zat zbr zca zcl zcm zcr zen zfa zfi zho zhs zky zpa zpt zqx zqy zra zre zrp zrs zru zse zsi zsl zso zst zsu zsy zti ztk ztr ztu zup zwe zwl zwo zto hrt.1 hp
  rcases hrs with ⟨rfl, rfl⟩ | ⟨i, hi, rfl, rfl⟩
  · refine Or.inl ⟨fun P hP => ?_, fun P hP => ?_⟩
    · refine ⟨hqi, ?_⟩
      rw [ept]
      exact hX _ (br_t rfl hP)
    · have hS : ∀ P : Int32 → Prop, P (-1) → wpY_serversOf P (nI now, nI rc, nI nx, nI ql, zwe, zsl, zpa, zti, zfa, zcr, zsu, zsi, zwl, zbr, zup, zrp, zrs, zse, zca, zre, ztk, zho, zhs, zcl, zpt, zky, zwo, zra, zsy, zat, zan, ztr, zcm, zen, zae, zal, zqy, zto, ztu, zso) (zpt q) := by rw [hpt]; exact hY
      have hz : mk_m (fun _ => false) 6 = 0 := by decide
      exact ⟨7, cy_loop now rc ql nx zae zal zan zat zbr zca zcl zcm zcr zen zfa zho zhs zky zpa zpt zqy zra zre zrp zrs zse zsi zsl zso zsu zsy zti ztk ztr ztu zup zwe zwl zwo zto (fun _ => false) (fun _ _ z => absurd z Bool.false_ne_true) (fun s hs _ P hP => ry_m now rc ql nx zae zal zan zat zbr zca zcl zcm zcr zen zfa zho zhs zky zpa zpt zqy zra zre zrp zrs zru zse zsi zsl zso zsu zsy zti ztk ztr ztu zup zwe zwl zwo zto hs hq hS (hR s hs) P hP) _ (br_t l66 (br_t hz (br_f (by decide) hP))) 6 0 7 rfl (by omega)⟩
  · have hsv : 0 ≤ zrs i := hrt.2 i hi
    have hS : ∀ P : Int32 → Prop, P (zrs i) → wpY_serversOf P (nI now, nI rc, nI nx, nI ql, zwe, zsl, zpa, zti, zfa, zcr, zsu, zsi, zwl, zbr, zup, zrp, zrs, zse, zca, zre, ztk, zho, zhs, zcl, zpt, zky, zwo, zra, zsy, zat, zan, ztr, zcm, zen, zae, zal, zqy, zto, ztu, zso) (zpt q) := by rw [hpt]; exact hY
    have h12 : vp_in (nI i) 12 := vp_in_nI (by have := hrt.1; omega) (by decide)
    have ei : (nI i).toNatClampNeg = i := nI_clamp (by have := hrt.1; omega)
    have hw : ∃ w : Nat → Nat, ∀ s, s < 6 → w s < 10 ∧ zwe s = nI (w s) := ⟨fun s => (zwe s).toNatClampNeg, fun s hs => by
      obtain ⟨w, hw, e⟩ := (hsrv s hs).1
      dsimp only
      rw [e, nI_clamp (by omega)]
      exact ⟨hw, rfl⟩⟩
    obtain ⟨w, hw⟩ := hw
    obtain ⟨r, cr', hr, cX, cY⟩ := ch_pair now rc ql nx zae zal zan zat zbr zca zcl zcm zcr zen zfa zfi zho zhs zky zpa zpt zqx zqy zra zre zrp zrs zru zse zsi zsl zso zst zsu zsy zti ztk ztr ztu zup zwe zwl zwo zto (rd_b now zwe zup zsl zti zru (zrs i) (ztr q)) w hw hR hq hk hky hc6 hcl (hcli cl hc6).2 hset.2.1
    have yA : ∀ P : Int32 → SY → Prop, P r (nI now, nI rc, nI nx, nI ql, zwe, zsl, zpa, zti, zfa, cr', zsu, zsi, zwl, zbr, zup, zrp, zrs, zse, zca, zre, ztk, zho, zhs, zcl, zpt, zky, zwo, zra, zsy, zat, zan, ztr, zcm, zen, zae, zal, zqy, zto, ztu, zso) → wpY_choose P (nI now, nI rc, nI nx, nI ql, zwe, zsl, zpa, zti, zfa, zcr, zsu, zsi, zwl, zbr, zup, zrp, zrs, zse, zca, zre, ztk, zho, zhs, zcl, zpt, zky, zwo, zra, zsy, zat, zan, ztr, zcm, zen, zae, zal, zqy, zto, ztu, zso) (nI q) := fun P hP =>
      ⟨7, cy_loop now rc ql nx zae zal zan zat zbr zca zcl zcm zcr zen zfa zho zhs zky zpa zpt zqy zra zre zrp zrs zse zsi zsl zso zsu zsy zti ztk ztr ztu zup zwe zwl zwo zto (rd_b now zwe zup zsl zti zru (zrs i) (ztr q))
        (fun s hs hb P hP => ry_1 now rc ql nx zae zal zan zat zbr zca zcl zcm zcr zen zfa zho zhs zky zpa zpt zqy zra zre zrp zrs zru zse zsi zsl zso zsu zsy zti ztk ztr ztu zup zwe zwl zwo zto hs hq hsv (hsrv s hs).2 hS (hR s hs) (@of_decide_eq_true _ (Classical.propDecidable _) hb) P hP)
        (fun s hs hb P hP => ry_0 now rc ql nx zae zal zan zat zbr zca zcl zcm zcr zen zfa zho zhs zky zpa zpt zqy zra zre zrp zrs zru zse zsi zsl zso zsu zsy zti ztk ztr ztu zup zwe zwl zwo zto hs hq hsv (hsrv s hs).2 hS (hR s hs) (@of_decide_eq_false _ (Classical.propDecidable _) hb) P hP) _ (cY P hP) 6 0 7 rfl (by omega)⟩
    have xA : ∀ (Q : Int32 → SX → Prop), Q r (nI now, nI rc, nI ql, zse, zto, ztu, zwe, zsl, zpa, zbr, zup, zti, zfa, cr', zru, zsu, zfi, zrp, zrs, zca, zre, ztk, zho, zhs, zst, zcl, zpt, zky, zwo, zra, zcm, zen, zat, zan, ztr, zae, zal, zqx) → wpX_readyAmong (fun m => wpX_choose Q (nI now, nI rc, nI ql, zse, zto, ztu, zwe, zsl, zpa, zbr, zup, zti, zfa, zcr, zru, zsu, zfi, zrp, zrs, zca, zre, ztk, zho, zhs, zst, zcl, zpt, zky, zwo, zra, zcm, zen, zat, zan, ztr, zae, zal, zqx) m (nI q)) (nI now, nI rc, nI ql, zse, zto, ztu, zwe, zsl, zpa, zbr, zup, zti, zfa, zcr, zru, zsu, zfi, zrp, zrs, zca, zre, ztk, zho, zhs, zst, zcl, zpt, zky, zwo, zra, zcm, zen, zat, zan, ztr, zae, zal, zqx) (zrs i) (nI q) := fun Q hQ => ra_run now rc ql zae zal zan zat zbr zca zcl zcm zcr zen zfa zfi zho zhs zky zpa zpt zqx zra zre zrp zrs zru zse zsl zst zsu zti ztk ztr ztu zup zwe zwo zto hq (zrs i) _ (cX Q hQ)
    rcases hr with ⟨rfl, rfl⟩ | ⟨c, hc, rfl⟩
    · refine Or.inl ⟨fun P hP => ?_, fun P hP => yA _ (br_f (by decide) hP)⟩
      refine ⟨hqi, ?_⟩
      rw [ept]
      refine hX _ (br_f (ms_nI_m1 (by omega)) ⟨h12, ?_⟩)
      rw [ei]
      exact xA _ (br_t rfl hP)
    · have hci : vp_in (nI c) 6 := vp_in_nI hc (by decide)
      have hc1 : ¬ nI c = -1 := ms_nI_m1 (by omega)
      have hc0 : 0 ≤ nI c := nI_pos' (by omega)
      by_cases z : zwo (nI q).toNatClampNeg * zpa (nI c).toNatClampNeg ≤ zse 1
      · refine Or.inr ⟨c, cr', _, _, _, _, hc, fun P hP => ?_, fun P hP => yA _ (br_t hc0 ⟨hqi, hci, nm_e (br_t z ⟨hqi, nm_e ⟨hqi, br_t (pk_us.trans ms_nb0) (ay_75 now rc ql nx zae (upd zal (nI q).toNatClampNeg (vp_nar .boolean 0)) zan zat zbr zca zcl zcm cr' zen zfa zho zhs zky zpa zpt zqy zra zre zrp zrs zse zsi zsl zso zsu zsy zti ztk ztr ztu zup zwe zwl zwo zto hq _ _ P hP)⟩⟩)⟩)⟩
        refine ⟨hqi, ?_⟩
        rw [ept]
        refine hX _ (br_f (ms_nI_m1 (by omega)) ⟨h12, ?_⟩)
        rw [ei]
        exact xA _ (br_f hc1 ⟨hqi, hci, nm_e (br_t z ⟨hqi, nm_e ⟨hqi, br_t (pk_us.trans ms_nb0) (ax_113 now rc ql zae (upd zal (nI q).toNatClampNeg (vp_nar .boolean 0)) zan zat zbr zca zcl zcm cr' zen zfa zfi zho zhs zky zpa zpt zqx zra zre zrp zrs zru zse zsl zst zsu zti ztk ztr ztu zup zwe zwo zto hq hc _ _ P hP)⟩⟩)⟩)
      · have n1 : ¬ (upd zal (nI q).toNatClampNeg (vp_nar .boolean 1)) (nI q).toNatClampNeg = 0 := by rw [pk_us, ms_nb1]; decide
        refine Or.inr ⟨c, cr', _, _, _, _, hc, fun P hP => ?_, fun P hP => yA _ (br_t hc0 ⟨hqi, hci, nm_e (br_f z ⟨hqi, nm_e ⟨hqi, br_f n1 (ay_75 now rc ql nx zae (upd zal (nI q).toNatClampNeg (vp_nar .boolean 1)) zan zat zbr zca zcl zcm cr' zen zfa zho zhs zky zpa zpt zqy zra zre zrp zrs zse zsi zsl zso zsu zsy zti ztk ztr ztu zup zwe zwl zwo zto hq _ _ P hP)⟩⟩)⟩)⟩
        refine ⟨hqi, ?_⟩
        rw [ept]
        refine hX _ (br_f (ms_nI_m1 (by omega)) ⟨h12, ?_⟩)
        rw [ei]
        exact xA _ (br_f hc1 ⟨hqi, hci, nm_e (br_f z ⟨hqi, nm_e ⟨hqi, br_f n1 (ax_113 now rc ql zae (upd zal (nI q).toNatClampNeg (vp_nar .boolean 1)) zan zat zbr zca zcl zcm cr' zen zfa zfi zho zhs zky zpa zpt zqx zra zre zrp zrs zru zse zsl zst zsu zti ztk ztr ztu zup zwe zwo zto hq hc _ _ P hP)⟩⟩)⟩)
end
end
section
/-! the relation -/
def md_R (now nx dn B l k ql : Nat) (u : SX) (v : SY) : Prop := ∃ (rc : Nat) (qn : Nat → Nat), ∃ (zae zal zan zat zbr zca zcl zcm zcr zen zfa zfi zho zhs zky zpa zpt zqx zqy zra zre zrp zrs zru zse zsi zsl zso zst zsu zti ztk ztr ztu zup zwe zwl zwo : Nat → Int32) (zto : Nat → Int64), u = (nI now, nI rc, nI ql, zse, zto, ztu, zwe, zsl, zpa, zbr, zup, zti, zfa, zcr, zru, zsu, zfi, zrp, zrs, zca, zre, ztk, zho, zhs, zst, zcl, zpt, zky, zwo, zra, zcm, zen, zat, zan, ztr, zae, zal, zqx) ∧ v = (nI now, nI rc, nI nx, nI ql, zwe, zsl, zpa, zti, zfa, zcr, zsu, zsi, zwl, zbr, zup, zrp, zrs, zse, zca, zre, ztk, zho, zhs, zcl, zpt, zky, zwo, zra, zst, zat, zan, ztr, zcm, zen, zae, zal, zqy, zto, ztu, zso) ∧
  iv_set zse ∧ iv_cli zre zho ∧ iv_srv zwe zti ∧ iv_rt rc zrs ∧ iv_fnd B zfi zsi zwl ∧ iv_req zcl zky zpt zst zat ∧ iv_run nx zst zat zru ∧ iv_q l k ql nx qn zqx zqy zst ∧ iv_tot nx dn zto
section
variable {now rc ql nx : Nat} {zae zal zan zat zbr zca zcl zcm zcr zen zfa zfi zho zhs zky zpa zpt zqx zqy zra zre zrp zrs zru zse zsi zsl zso zst zsu zsy zti ztk ztr ztu zup zwe zwl zwo : Nat → Int32} {zto : Nat → Int64}
theorem md_mk {dn B l k : Nat} {qn : Nat → Nat} (h1 : iv_set zse) (h2 : iv_cli zre zho) (h3 : iv_srv zwe zti) (h4 : iv_rt rc zrs) (h5 : iv_fnd B zfi zsi zwl) (h6 : iv_req zcl zky zpt zst zat) (h7 : iv_run nx zst zat zru) (h8 : iv_q l k ql nx qn zqx zqy zst) (h9 : iv_tot nx dn zto) :
    md_R now nx dn B l k ql (nI now, nI rc, nI ql, zse, zto, ztu, zwe, zsl, zpa, zbr, zup, zti, zfa, zcr, zru, zsu, zfi, zrp, zrs, zca, zre, ztk, zho, zhs, zst, zcl, zpt, zky, zwo, zra, zcm, zen, zat, zan, ztr, zae, zal, zqx) (nI now, nI rc, nI nx, nI ql, zwe, zsl, zpa, zti, zfa, zcr, zsu, zsi, zwl, zbr, zup, zrp, zrs, zse, zca, zre, ztk, zho, zhs, zcl, zpt, zky, zwo, zra, zst, zat, zan, ztr, zcm, zen, zae, zal, zqy, zto, ztu, zso) := ⟨rc, qn, zae, zal, zan, zat, zbr, zca, zcl, zcm, zcr, zen, zfa, zfi, zho, zhs, zky, zpa, zpt, zqx, zqy, zra, zre, zrp, zrs, zru, zse, zsi, zsl, zso, zst, zsu, zti, ztk, ztr, ztu, zup, zwe, zwl, zwo, zto, rfl, rfl, h1, h2, h3, h4, h5, h6, h7, h8, h9⟩
end
/-- the relation at the head of a turn: near equality, counters bounded by the turn -/
def i_Rel (k : Nat) (u : SX) (v : SY) : Prop := ∃ now nx dn w : Nat, now ≤ 5000 * k ∧ nx ≤ k ∧ dn ≤ 32 * now ∧ md_R now nx dn now 0 0 w u v
theorem i_up {k : Nat} {u : SX} {v : SY} (h : i_Rel k u v) : i_Rel (k + 6) u v := by
  obtain ⟨now, nx, dn, w, h1, h2, h3, h4⟩ := h
  exact ⟨now, nx, dn, w, by omega, by omega, h3, h4⟩
/-- X's and Y's loops at a state that is one value -/
def xx_E (P : SX → Prop) (x1 : Int32) (n : Nat) (x2 : Int32) (u : SX) : Prop := match u with
  | (g_now, g_routeCount, g_queueLength, g_settings, g_totals, g_tookUnits, g_weightOf, g_slotsOf, g_paceOf, g_isBroken, g_isUp, g_shutTill, g_failures, g_credit, g_running, g_succeeded, g_findings, g_routePath, g_routeServers, g_capacityOf, g_refillOf, g_tokenCount, g_homeServer, g_homeSince, g_stateOf, g_clientOf, g_pathOf, g_keyOf, g_workOf, g_rankOf, g_cameAt, g_endedAt, g_serverOf, g_attempts, g_triedServers, g_attemptEnd, g_attemptTooLong, g_queue) => wX_endAttempts_13 P x1 n x2 g_now g_routeCount g_queueLength g_settings g_totals g_tookUnits g_weightOf g_slotsOf g_paceOf g_isBroken g_isUp g_shutTill g_failures g_credit g_running g_succeeded g_findings g_routePath g_routeServers g_capacityOf g_refillOf g_tokenCount g_homeServer g_homeSince g_stateOf g_clientOf g_pathOf g_keyOf g_workOf g_rankOf g_cameAt g_endedAt g_serverOf g_attempts g_triedServers g_attemptEnd g_attemptTooLong g_queue
def yy_E (P : SY → Prop) (n : Nat) (x1 : Int32) (v : SY) : Prop := match v with
  | (g_time, g_routes, g_next, g_waiting, g_weight, g_slots, g_pace, g_till, g_failures, g_credit, g_successes, g_sick, g_well, g_broken, g_up, g_routePath, g_routeServers, g_setting, g_capacity, g_refill, g_tokens, g_home, g_homeTime, g_client, g_path, g_key, g_work, g_rank, g_state, g_at, g_attempts, g_tried, g_came, g_ended, g_ends, g_late, g_queue, g_total, g_took, g_sorted) => wY_unit_84 P n x1 g_time g_routes g_next g_waiting g_weight g_slots g_pace g_till g_failures g_credit g_successes g_sick g_well g_broken g_up g_routePath g_routeServers g_setting g_capacity g_refill g_tokens g_home g_homeTime g_client g_path g_key g_work g_rank g_state g_at g_attempts g_tried g_came g_ended g_ends g_late g_queue g_total g_took g_sorted
def yy_C (P : SY → Prop) (n : Nat) (x1 : Int32) (v : SY) : Prop := match v with
  | (g_time, g_routes, g_next, g_waiting, g_weight, g_slots, g_pace, g_till, g_failures, g_credit, g_successes, g_sick, g_well, g_broken, g_up, g_routePath, g_routeServers, g_setting, g_capacity, g_refill, g_tokens, g_home, g_homeTime, g_client, g_path, g_key, g_work, g_rank, g_state, g_at, g_attempts, g_tried, g_came, g_ended, g_ends, g_late, g_queue, g_total, g_took, g_sorted) => wY_unit_133 P n x1 g_time g_routes g_next g_waiting g_weight g_slots g_pace g_till g_failures g_credit g_successes g_sick g_well g_broken g_up g_routePath g_routeServers g_setting g_capacity g_refill g_tokens g_home g_homeTime g_client g_path g_key g_work g_rank g_state g_at g_attempts g_tried g_came g_ended g_ends g_late g_queue g_total g_took g_sorted
def xx_W (P : SX → Prop) (n : Nat) (x1 x2 : Int32) (u : SX) : Prop := match u with
  | (g_now, g_routeCount, g_queueLength, g_settings, g_totals, g_tookUnits, g_weightOf, g_slotsOf, g_paceOf, g_isBroken, g_isUp, g_shutTill, g_failures, g_credit, g_running, g_succeeded, g_findings, g_routePath, g_routeServers, g_capacityOf, g_refillOf, g_tokenCount, g_homeServer, g_homeSince, g_stateOf, g_clientOf, g_pathOf, g_keyOf, g_workOf, g_rankOf, g_cameAt, g_endedAt, g_serverOf, g_attempts, g_triedServers, g_attemptEnd, g_attemptTooLong, g_queue) => wX_expireQueued_4 P n x1 x2 g_now g_routeCount g_queueLength g_settings g_totals g_tookUnits g_weightOf g_slotsOf g_paceOf g_isBroken g_isUp g_shutTill g_failures g_credit g_running g_succeeded g_findings g_routePath g_routeServers g_capacityOf g_refillOf g_tokenCount g_homeServer g_homeSince g_stateOf g_clientOf g_pathOf g_keyOf g_workOf g_rankOf g_cameAt g_endedAt g_serverOf g_attempts g_triedServers g_attemptEnd g_attemptTooLong g_queue
def yy_W (P : SY → Prop) (n : Nat) (x1 x2 : Int32) (v : SY) : Prop := match v with
  | (g_time, g_routes, g_next, g_waiting, g_weight, g_slots, g_pace, g_till, g_failures, g_credit, g_successes, g_sick, g_well, g_broken, g_up, g_routePath, g_routeServers, g_setting, g_capacity, g_refill, g_tokens, g_home, g_homeTime, g_client, g_path, g_key, g_work, g_rank, g_state, g_at, g_attempts, g_tried, g_came, g_ended, g_ends, g_late, g_queue, g_total, g_took, g_sorted) => wY_unit_168 P n x1 x2 g_time g_routes g_next g_waiting g_weight g_slots g_pace g_till g_failures g_credit g_successes g_sick g_well g_broken g_up g_routePath g_routeServers g_setting g_capacity g_refill g_tokens g_home g_homeTime g_client g_path g_key g_work g_rank g_state g_at g_attempts g_tried g_came g_ended g_ends g_late g_queue g_total g_took g_sorted
def xx_S (P : SX → Prop) (n : Nat) (x1 x2 : Int32) (u : SX) : Prop := match u with
  | (g_now, g_routeCount, g_queueLength, g_settings, g_totals, g_tookUnits, g_weightOf, g_slotsOf, g_paceOf, g_isBroken, g_isUp, g_shutTill, g_failures, g_credit, g_running, g_succeeded, g_findings, g_routePath, g_routeServers, g_capacityOf, g_refillOf, g_tokenCount, g_homeServer, g_homeSince, g_stateOf, g_clientOf, g_pathOf, g_keyOf, g_workOf, g_rankOf, g_cameAt, g_endedAt, g_serverOf, g_attempts, g_triedServers, g_attemptEnd, g_attemptTooLong, g_queue) => wX_startQueued_4 P n x1 x2 g_now g_routeCount g_queueLength g_settings g_totals g_tookUnits g_weightOf g_slotsOf g_paceOf g_isBroken g_isUp g_shutTill g_failures g_credit g_running g_succeeded g_findings g_routePath g_routeServers g_capacityOf g_refillOf g_tokenCount g_homeServer g_homeSince g_stateOf g_clientOf g_pathOf g_keyOf g_workOf g_rankOf g_cameAt g_endedAt g_serverOf g_attempts g_triedServers g_attemptEnd g_attemptTooLong g_queue
def yy_S (P : SY → Prop) (n : Nat) (x1 x2 : Int32) (v : SY) : Prop := match v with
  | (g_time, g_routes, g_next, g_waiting, g_weight, g_slots, g_pace, g_till, g_failures, g_credit, g_successes, g_sick, g_well, g_broken, g_up, g_routePath, g_routeServers, g_setting, g_capacity, g_refill, g_tokens, g_home, g_homeTime, g_client, g_path, g_key, g_work, g_rank, g_state, g_at, g_attempts, g_tried, g_came, g_ended, g_ends, g_late, g_queue, g_total, g_took, g_sorted) => wY_unit_245 P n x1 x2 g_time g_routes g_next g_waiting g_weight g_slots g_pace g_till g_failures g_credit g_successes g_sick g_well g_broken g_up g_routePath g_routeServers g_setting g_capacity g_refill g_tokens g_home g_homeTime g_client g_path g_key g_work g_rank g_state g_at g_attempts g_tried g_came g_ended g_ends g_late g_queue g_total g_took g_sorted
def xx_A (P : Int32 → SX → Prop) (x1 : Int32) (x2 : Int64) (n : Nat) (x4 : Int32) (u : SX) : Prop := match u with
  | (g_now, g_routeCount, g_queueLength, g_settings, g_totals, g_tookUnits, g_weightOf, g_slotsOf, g_paceOf, g_isBroken, g_isUp, g_shutTill, g_failures, g_credit, g_running, g_succeeded, g_findings, g_routePath, g_routeServers, g_capacityOf, g_refillOf, g_tokenCount, g_homeServer, g_homeSince, g_stateOf, g_clientOf, g_pathOf, g_keyOf, g_workOf, g_rankOf, g_cameAt, g_endedAt, g_serverOf, g_attempts, g_triedServers, g_attemptEnd, g_attemptTooLong, g_queue) => wX_advance_48 P x1 x2 n x4 g_now g_routeCount g_queueLength g_settings g_totals g_tookUnits g_weightOf g_slotsOf g_paceOf g_isBroken g_isUp g_shutTill g_failures g_credit g_running g_succeeded g_findings g_routePath g_routeServers g_capacityOf g_refillOf g_tokenCount g_homeServer g_homeSince g_stateOf g_clientOf g_pathOf g_keyOf g_workOf g_rankOf g_cameAt g_endedAt g_serverOf g_attempts g_triedServers g_attemptEnd g_attemptTooLong g_queue
def yy_A (P : Int32 → SY → Prop) (x1 : Int32) (x2 : Int64) (n : Nat) (x4 : Int32) (v : SY) : Prop := match v with
  | (g_time, g_routes, g_next, g_waiting, g_weight, g_slots, g_pace, g_till, g_failures, g_credit, g_successes, g_sick, g_well, g_broken, g_up, g_routePath, g_routeServers, g_setting, g_capacity, g_refill, g_tokens, g_home, g_homeTime, g_client, g_path, g_key, g_work, g_rank, g_state, g_at, g_attempts, g_tried, g_came, g_ended, g_ends, g_late, g_queue, g_total, g_took, g_sorted) => wY_advance_48 P x1 x2 n x4 g_time g_routes g_next g_waiting g_weight g_slots g_pace g_till g_failures g_credit g_successes g_sick g_well g_broken g_up g_routePath g_routeServers g_setting g_capacity g_refill g_tokens g_home g_homeTime g_client g_path g_key g_work g_rank g_state g_at g_attempts g_tried g_came g_ended g_ends g_late g_queue g_total g_took g_sorted
end
section
/-! tokens; attempts that end -/
section
variable (now rc ql nx : Nat) (zae zal zan zat zbr zca zcl zcm zcr zen zfa zfi zho zhs zky zpa zpt zqx zqy zra zre zrp zrs zru zse zsi zsl zso zst zsu zsy zti ztk ztr ztu zup zwe zwl zwo : Nat → Int32) (zto : Nat → Int64)
theorem tb_loop (hre : ∀ c, c < 6 → ¬ zre c = 0) : ∀ d c : Nat, c + d = 6 → ∀ tk : Nat → Int32, ∃ tk' : Nat → Int32,
    (∀ (P : SX → Prop) (n : Nat), d < n → P (nI now, nI rc, nI ql, zse, zto, ztu, zwe, zsl, zpa, zbr, zup, zti, zfa, zcr, zru, zsu, zfi, zrp, zrs, zca, zre, tk', zho, zhs, zst, zcl, zpt, zky, zwo, zra, zcm, zen, zat, zan, ztr, zae, zal, zqx) → wX_bringTokens_2 P (nI now) (nI rc) (nI ql) n (nI c) zse zto ztu zwe zsl zpa zbr zup zti zfa zcr zru zsu zfi zrp zrs zca zre tk zho zhs zst zcl zpt zky zwo zra zcm zen zat zan ztr zae zal zqx) ∧
    (∀ (P : SY → Prop) (n : Nat), d < n → wY_unit_12 P (nI now) (nI rc) (nI nx) (nI ql) 1 (nI 6) zwe zsl zpa zti zfa zcr zsu zsi zwl zbr zup zrp zrs zse zca zre tk' zho zhs zcl zpt zky zwo zra zsy zat zan ztr zcm zen zae zal zqy zto ztu zso → wY_unit_12 P (nI now) (nI rc) (nI nx) (nI ql) n (nI c) zwe zsl zpa zti zfa zcr zsu zsi zwl zbr zup zrp zrs zse zca zre tk zho zhs zcl zpt zky zwo zra zsy zat zan ztr zcm zen zae zal zqy zto ztu zso) := by
  intro d
  induction d with
  | zero =>
    intro c hc tk
    have e : c = 6 := by omega
    subst e
    have l66 : (6 : Int32) ≤ nI 6 := by decide
    exact ⟨tk, fun P n hn hp => (by obtain ⟨m, rfl, hm_⟩ := fu_m hn; exact br_t l66 hp), fun P n hn hp => (by obtain ⟨m, rfl, hm_⟩ := fu_m hn; exact br_t l66 (ex_t l66 hp))⟩
  | succ d ih =>
    intro c hc tk
    have h6 : ¬ (6 : Int32) ≤ nI c := nI_ge (b := 6) (by omega) (by decide)
    have hi : vp_in (nI c) 6 := vp_in_nI (by omega) (by decide)
    have hn0 : ¬ zre (nI c).toNatClampNeg = 0 := by rw [nI_clamp (by omega)]; exact hre c (by omega)
    by_cases z : (nI now - nI now / zre (nI c).toNatClampNeg * zre (nI c).toNatClampNeg) = 0
    · by_cases y : zca (nI c).toNatClampNeg ≤ tk (nI c).toNatClampNeg
      · obtain ⟨tk', hX, hY⟩ := ih (c + 1) (by omega) tk
        exact ⟨tk', fun P n hn hp => (by obtain ⟨m, rfl, hm⟩ := fu_m hn; exact br_f h6 ⟨hi, hn0, br_t z ⟨hi, hi, br_t y (nm_r (nI_1 c) (hX P m (by omega) hp))⟩⟩),
          fun P n hn hp => (by obtain ⟨m, rfl, hm⟩ := fu_m hn; exact br_f h6 ⟨hi, hn0, br_t z ⟨hi, hi, br_t y (nm_r (nI_1 c) (hY P m (by omega) hp))⟩⟩)⟩
      · obtain ⟨tk', hX, hY⟩ := ih (c + 1) (by omega) (upd tk (nI c).toNatClampNeg (tk (nI c).toNatClampNeg + 1))
        exact ⟨tk', fun P n hn hp => (by obtain ⟨m, rfl, hm⟩ := fu_m hn; exact br_f h6 ⟨hi, hn0, br_t z ⟨hi, hi, br_f y ⟨hi, hi, nm_e (nm_r (nI_1 c) (hX P m (by omega) hp))⟩⟩⟩),
          fun P n hn hp => (by obtain ⟨m, rfl, hm⟩ := fu_m hn; exact br_f h6 ⟨hi, hn0, br_t z ⟨hi, hi, br_f y ⟨hi, hi, nm_e (nm_r (nI_1 c) (hY P m (by omega) hp))⟩⟩⟩)⟩
    · obtain ⟨tk', hX, hY⟩ := ih (c + 1) (by omega) tk
      exact ⟨tk', fun P n hn hp => (by obtain ⟨m, rfl, hm⟩ := fu_m hn; exact br_f h6 ⟨hi, hn0, br_f z (nm_r (nI_1 c) (hX P m (by omega) hp))⟩),
        fun P n hn hp => (by obtain ⟨m, rfl, hm⟩ := fu_m hn; exact br_f h6 ⟨hi, hn0, br_f z (nm_r (nI_1 c) (hY P m (by omega) hp))⟩)⟩
/-- finish, over: how is a number below 7 -/
theorem fi_X {q h : Nat} (hq : q < 32) (hh : h < 7) (P : SX → Prop) (hP : P (nI now, nI rc, nI ql, zse, vp_updL zto h (zto h + 1), ztu, zwe, zsl, zpa, zbr, zup, zti, zfa, zcr, zru, zsu, zfi, zrp, zrs, zca, zre, ztk, zho, zhs, upd zst q (nI h), zcl, zpt, zky, zwo, zra, zcm, upd zen q (nI now), zat, zan, ztr, zae, zal, zqx)) : wpX_finish P (nI now, nI rc, nI ql, zse, zto, ztu, zwe, zsl, zpa, zbr, zup, zti, zfa, zcr, zru, zsu, zfi, zrp, zrs, zca, zre, ztk, zho, zhs, zst, zcl, zpt, zky, zwo, zra, zcm, zen, zat, zan, ztr, zae, zal, zqx) (nI q) (nI h) := by
  have hqi : vp_in (nI q) 32 := vp_in_nI hq (by decide)
  have hhi : vp_in (nI h) 7 := vp_in_nI hh (by decide)
  have eq : (nI q).toNatClampNeg = q := nI_clamp (by omega)
  have eh : (nI h).toNatClampNeg = h := nI_clamp (by omega)
  unfold wpX_finish
  rw [eq, eh]
  exact ⟨hqi, nm_e ⟨hqi, nm_e ⟨hhi, hhi, nm_e hP⟩⟩⟩
theorem fi_Y {q h : Nat} (hq : q < 32) (hh : h < 7) (P : SY → Prop) (hP : P (nI now, nI rc, nI nx, nI ql, zwe, zsl, zpa, zti, zfa, zcr, zsu, zsi, zwl, zbr, zup, zrp, zrs, zse, zca, zre, ztk, zho, zhs, zcl, zpt, zky, zwo, zra, upd zsy q (nI h), zat, zan, ztr, zcm, upd zen q (nI now), zae, zal, zqy, vp_updL zto h (zto h + 1), ztu, zso)) : wpY_over P (nI now, nI rc, nI nx, nI ql, zwe, zsl, zpa, zti, zfa, zcr, zsu, zsi, zwl, zbr, zup, zrp, zrs, zse, zca, zre, ztk, zho, zhs, zcl, zpt, zky, zwo, zra, zsy, zat, zan, ztr, zcm, zen, zae, zal, zqy, zto, ztu, zso) (nI q) (nI h) := by
  have hqi : vp_in (nI q) 32 := vp_in_nI hq (by decide)
  have hhi : vp_in (nI h) 7 := vp_in_nI hh (by decide)
  have eq : (nI q).toNatClampNeg = q := nI_clamp (by omega)
  have eh : (nI h).toNatClampNeg = h := nI_clamp (by omega)
  unfold wpY_over
  rw [eq, eh]
  exact ⟨hqi, nm_e ⟨hqi, nm_e ⟨hhi, hhi, nm_e hP⟩⟩⟩
theorem sc_X {q s c dn : Nat} (hq : q < 32) (hs : s < 6) (hc : c < 6) (hat : zat q = nI s) (hcl : zcl q = nI c) (hdn : dn < 2 ^ 31) (hto : zto 2 = lN dn) (P : SX → Prop)
    (hP : P (nI now, nI rc, nI ql, zse, vp_updL (vp_updL zto 1 (zto 1 + (nI now - zcm q).toInt64)) 2 (lN (dn + 1)), upd ztu (dn % 64) (nI now - zcm q), zwe, zsl, zpa, zbr, zup, upd zti s (-1), upd zfa s 0, zcr, zru, upd zsu s (zsu s + 1), zfi, zrp, zrs, zca, zre, ztk, upd zho c (nI s), upd zhs c (nI now), upd zst q 2, zcl, zpt, zky, zwo, zra, zcm, upd zen q (nI now), zat, zan, ztr, zae, zal, zqx)) :
    wpX_succeed P (nI now, nI rc, nI ql, zse, zto, ztu, zwe, zsl, zpa, zbr, zup, zti, zfa, zcr, zru, zsu, zfi, zrp, zrs, zca, zre, ztk, zho, zhs, zst, zcl, zpt, zky, zwo, zra, zcm, zen, zat, zan, ztr, zae, zal, zqx) (nI q) := by
  have hqi : vp_in (nI q) 32 := vp_in_nI hq (by decide)
  have hsi : vp_in (nI s) 6 := vp_in_nI hs (by decide)
  have hci : vp_in (nI c) 6 := vp_in_nI hc (by decide)
  have eq : (nI q).toNatClampNeg = q := nI_clamp (by omega)
  have es : (nI s).toNatClampNeg = s := nI_clamp (by omega)
  have ec : (nI c).toNatClampNeg = c := nI_clamp (by omega)
  have e64 : (zto 2).toInt32 &&& 63 = nI (dn % 64) := by rw [hto, lN_i]; exact pk_andN (by omega) 6 (by decide)
  have h64 : vp_in (nI (dn % 64)) 64 := vp_in_nI (Nat.mod_lt _ (by decide)) (by decide)
  have eu : (nI (dn % 64)).toNatClampNeg = dn % 64 := nI_clamp (by omega)
  have et : vp_updL (vp_updL zto 1 (zto 1 + (nI now - zcm q).toInt64)) 2 ((vp_updL zto 1 (zto 1 + (nI now - zcm q).toInt64)) 2 + 1) = vp_updL (vp_updL zto 1 (zto 1 + (nI now - zcm q).toInt64)) 2 (lN (dn + 1)) := by
    rw [pk_uLn (by decide), hto, lN_1]
  unfold wpX_succeed
  dsimp only
  rw [eq, hcl, ec, e64, eu]
  refine ⟨hqi, nm_r hat ⟨hsi, ?_⟩⟩
  rw [es]
  refine nm_e ⟨hsi, nm_e ⟨hsi, hsi, nm_e ⟨hqi, hci, nm_e ⟨hqi, hci, nm_e ⟨hqi, nm_e ⟨h64, nm_e (nm_e (fi_X now rc ql zae zal zan zat zbr zca zcl zcm zcr zen (upd zfa s 0) zfi (upd zho c (nI s)) (upd zhs c (nI now)) zky zpa zpt zqx zra zre zrp zrs zru zse zsl zst (upd zsu s (zsu s + 1)) (upd zti s (-1)) ztk ztr (upd ztu (dn % 64) (nI now - zcm q)) zup zwe zwo (vp_updL zto 1 (zto 1 + (nI now - zcm q).toInt64)) (h := 2) hq (by decide) _ ?_))⟩⟩⟩⟩⟩⟩
  rw [et]
  exact hP
theorem sc_Y {q s c dn : Nat} (hq : q < 32) (hs : s < 6) (hc : c < 6) (hat : zat q = nI s) (hcl : zcl q = nI c) (hdn : dn < 2 ^ 31) (hto : zto 2 = lN dn) (hal : zal q = 0) (hbr : zbr s = 0) (P : SY → Prop)
    (hP : P (nI now, nI rc, nI nx, nI ql, zwe, zsl, zpa, upd zti s (-1), upd zfa s 0, zcr, upd zsu s (zsu s + 1), zsi, zwl, zbr, zup, zrp, zrs, zse, zca, zre, ztk, upd zho c (nI s), upd zhs c (nI now), zcl, zpt, zky, zwo, zra, upd zsy q 2, zat, zan, ztr, zcm, upd zen q (nI now), zae, zal, zqy, vp_updL (vp_updL zto 1 (zto 1 + (nI now - zcm q).toInt64)) 2 (lN (dn + 1)), upd ztu (dn % 64) (nI now - zcm q), zso)) :
    wpY_finish P (nI now, nI rc, nI nx, nI ql, zwe, zsl, zpa, zti, zfa, zcr, zsu, zsi, zwl, zbr, zup, zrp, zrs, zse, zca, zre, ztk, zho, zhs, zcl, zpt, zky, zwo, zra, zsy, zat, zan, ztr, zcm, zen, zae, zal, zqy, zto, ztu, zso) (nI q) := by
  have hqi : vp_in (nI q) 32 := vp_in_nI hq (by decide)
  have hsi : vp_in (nI s) 6 := vp_in_nI hs (by decide)
  have hci : vp_in (nI c) 6 := vp_in_nI hc (by decide)
  have eq : (nI q).toNatClampNeg = q := nI_clamp (by omega)
  have es : (nI s).toNatClampNeg = s := nI_clamp (by omega)
  have ec : (nI c).toNatClampNeg = c := nI_clamp (by omega)
  have h64 : vp_in (nI (dn % 64)) 64 := vp_in_nI (Nat.mod_lt _ (by decide)) (by decide)
  have eu : (nI (dn % 64)).toNatClampNeg = dn % 64 := nI_clamp (by omega)
  have h0 : ¬ (64 : Int32) = 0 := by decide
  have e1 : vp_updL zto 2 (zto 2 + 1) = vp_updL zto 2 (lN (dn + 1)) := by rw [hto, lN_1]
  have e2 : (vp_updL zto 2 (lN (dn + 1))) 2 = lN (dn + 1) := pk_uLs
  have e3 : (vp_updL zto 2 (lN (dn + 1))) 1 = zto 1 := pk_uLn (by decide)
  have e4 : lN (dn + 1) - 1 = lN dn := lN_sub (b := 1) (by omega)
  have e5 : nI dn - nI dn / 64 * 64 = nI (dn % 64) := pk_rem (d := 64) hdn (by decide) (by decide)
  have e6 : vp_updL (vp_updL zto 2 (lN (dn + 1))) 1 (zto 1 + (nI now - zcm q).toInt64) = vp_updL (vp_updL zto 1 (zto 1 + (nI now - zcm q).toInt64)) 2 (lN (dn + 1)) := ms_comm (by decide)
  unfold wpY_finish
  rw [eq]
  refine ⟨hqi, nm_r hat ⟨hqi, br_t hal ⟨hsi, ?_⟩⟩⟩
  rw [es]
  refine br_t hbr (fi_Y now rc ql nx zae zal zan zat zbr zca zcl zcm zcr zen zfa zho zhs zky zpa zpt zqy zra zre zrp zrs zse zsi zsl zso zsu zsy zti ztk ztr ztu zup zwe zwl zwo zto (h := 2) hq (by decide) _ ?_)
  rw [e1]
  dsimp only
  rw [hcl, ec, e2, e3, e4, lN_i, e5, eu]
  refine ⟨hsi, nm_e ⟨hsi, nm_e ⟨hsi, hsi, nm_e ⟨hqi, hci, nm_e ⟨hqi, hci, nm_e ⟨h0, hqi, h64, nm_e ⟨hqi, nm_r e6 hP⟩⟩⟩⟩⟩⟩⟩
end
end
section
/-! an attempt that failed; the attempts that end in a unit -/
theorem iv_srv_ti {we ti : Nat → Int32} {s : Nat} {x : Int32} (h : iv_srv we ti) (hx : x = -1 ∨ 0 ≤ x) : iv_srv we (upd ti s x) := by
  intro j hj
  refine ⟨(h j hj).1, ?_⟩
  by_cases e : j = s
  · rw [e, pk_us]; exact hx
  · rw [pk_un e]; exact (h j hj).2
theorem iv_cli_ho {re ho : Nat → Int32} {c s : Nat} (h : iv_cli re ho) (hs : s < 6) : iv_cli re (upd ho c (nI s)) := by
  intro j hj
  refine ⟨(h j hj).1, ?_⟩
  by_cases e : j = c
  · rw [e, pk_us]; exact Or.inr ⟨s, hs, rfl⟩
  · rw [pk_un e]; exact (h j hj).2
theorem iv_tot_h {nx dn h : Nat} {to : Nat → Int64} {x : Int64} (ht : iv_tot nx dn to) (h0 : h ≠ 0) (h2 : h ≠ 2) : iv_tot nx dn (vp_updL to h x) :=
  ⟨by rw [pk_uLn (Ne.symm h0)]; exact ht.1, by rw [pk_uLn (Ne.symm h2)]; exact ht.2⟩
section
variable (now rc ql nx : Nat) (zae zal zan zat zbr zca zcl zcm zcr zen zfa zfi zho zhs zky zpa zpt zqx zqy zra zre zrp zrs zru zse zsi zsl zso zst zsu zsy zti ztk ztr ztu zup zwe zwl zwo : Nat → Int32) (zto : Nat → Int64)
theorem f5_pair {dn B q : Nat} {qn : Nat → Nat} (hset : iv_set zse) (hcli : iv_cli zre zho) (hsrv : iv_srv zwe zti) (hrt : iv_rt rc zrs) (hfnd : iv_fnd B zfi zsi zwl) (hreq : iv_req zcl zky zpt zst zat) (hrun : iv_run nx (upd zst q 3) zat zru)
    (hqs : iv_q 0 0 ql nx qn zqx zqy zst) (htot : iv_tot nx dn zto) (hnx : nx < 2 ^ 31) (hq : q < 32) (hqn : q < nx) (hst : zst q = 1) :
    ∃ u' v', md_R now nx dn B 0 0 ql u' v' ∧ (∀ P : SX → Prop, P u' → wX_fail_54 P (nI q) (nI now) (nI rc) (nI ql) zse zto ztu zwe zsl zpa zbr zup zti zfa zcr zru zsu zfi zrp zrs zca zre ztk zho zhs zst zcl zpt zky zwo zra zcm zen zat zan ztr zae zal zqx) ∧ (∀ P : SY → Prop, P v' → wY_finish_185 P (nI q) (nI now) (nI rc) (nI nx) (nI ql) zwe zsl zpa zti zfa zcr zsu zsi zwl zbr zup zrp zrs zse zca zre ztk zho zhs zcl zpt zky zwo zra (upd zst q 3) zat zan ztr zcm zen zae zal zqy zto ztu zso) := by
  have hqi : vp_in (nI q) 32 := vp_in_nI hq (by decide)
  have hn0 : ¬ zst q = 0 := by rw [hst]; decide
  obtain ⟨hcl, hky, hpt, hat⟩ := hreq q hq
  have hA : md_R now nx dn B 0 0 ql (nI now, nI rc, nI ql, zse, vp_updL zto 3 (zto 3 + 1), ztu, zwe, zsl, zpa, zbr, zup, zti, zfa, zcr, zru, zsu, zfi, zrp, zrs, zca, zre, ztk, zho, zhs, upd zst q 3, zcl, zpt, zky, zwo, zra, zcm, upd zen q (nI now), zat, zan, ztr, zae, zal, zqx) (nI now, nI rc, nI nx, nI ql, zwe, zsl, zpa, zti, zfa, zcr, zsu, zsi, zwl, zbr, zup, zrp, zrs, zse, zca, zre, ztk, zho, zhs, zcl, zpt, zky, zwo, zra, upd zst q 3, zat, zan, ztr, zcm, upd zen q (nI now), zae, zal, zqy, vp_updL zto 3 (zto 3 + 1), ztu, zso) :=
    md_mk hset hcli hsrv hrt hfnd (iv_req_st hreq (by decide)) hrun (iv_q_ne hqs hn0) (iv_tot_h htot (by decide) (by decide))
  have xA : ∀ P : SX → Prop, P (nI now, nI rc, nI ql, zse, vp_updL zto 3 (zto 3 + 1), ztu, zwe, zsl, zpa, zbr, zup, zti, zfa, zcr, zru, zsu, zfi, zrp, zrs, zca, zre, ztk, zho, zhs, upd zst q 3, zcl, zpt, zky, zwo, zra, zcm, upd zen q (nI now), zat, zan, ztr, zae, zal, zqx) → wX_fail_77 P (nI q) (nI now) (nI rc) (nI ql) zse zto ztu zwe zsl zpa zbr zup zti zfa zcr zru zsu zfi zrp zrs zca zre ztk zho zhs zst zcl zpt zky zwo zra zcm zen zat zan ztr zae zal zqx := fun P hP => fi_X now rc ql zae zal zan zat zbr zca zcl zcm zcr zen zfa zfi zho zhs zky zpa zpt zqx zra zre zrp zrs zru zse zsl zst zsu zti ztk ztr ztu zup zwe zwo zto (h := 3) hq (by decide) _ hP
  have yA : ∀ P : SY → Prop, P (nI now, nI rc, nI nx, nI ql, zwe, zsl, zpa, zti, zfa, zcr, zsu, zsi, zwl, zbr, zup, zrp, zrs, zse, zca, zre, ztk, zho, zhs, zcl, zpt, zky, zwo, zra, upd zst q 3, zat, zan, ztr, zcm, upd zen q (nI now), zae, zal, zqy, vp_updL zto 3 (zto 3 + 1), ztu, zso) → wY_finish_212 P (nI q) (nI now) (nI rc) (nI nx) (nI ql) zwe zsl zpa zti zfa zcr zsu zsi zwl zbr zup zrp zrs zse zca zre ztk zho zhs zcl zpt zky zwo zra (upd zst q 3) zat zan ztr zcm zen zae zal zqy zto ztu zso := fun P hP => br_t rfl (fi_Y now rc ql nx zae zal zan zat zbr zca zcl zcm zcr zen zfa zho zhs zky zpa zpt zqy zra zre zrp zrs zse zsi zsl zso zsu (upd zst q 3) zti ztk ztr ztu zup zwe zwl zwo zto (h := 3) hq (by decide) _ (by rw [ud_ud]; exact hP))
  by_cases z : zse 2 < zan (nI q).toNatClampNeg
  · exact ⟨_, _, hA, fun P hP => ⟨hqi, br_t z (xA P hP)⟩, fun P hP => ⟨hqi, br_t z (yA P hP)⟩⟩
  · rcases am_pair now rc ql nx zae zal zan zat zbr zca zcl zcm zcr zen zfa zfi zho zhs zky zpa zpt zqx zqy zra zre zrp zrs zru zse zsi zsl zso zst zsu (upd zst q 3) zti ztk ztr ztu zup zwe zwl zwo zto hset hcli hsrv hrt hnx hrun.1 hrun.2 hq hcl hky hpt with ⟨aX, aY⟩ | ⟨s', cr', al', ae', an', tr', hs', aX, aY⟩
    · exact ⟨_, _, hA, fun P hP => ⟨hqi, br_f z (aX _ (br_t rfl (xA P hP)))⟩, fun P hP => ⟨hqi, br_f z (aY _ (br_t rfl (yA P hP)))⟩⟩
    · have hr2 := iv_run_start (s := s') hrun hqn hq hs' (by rw [pk_us]; decide)
      rw [ud_ud] at hr2
      have hB : md_R now nx dn B 0 0 ql (nI now, nI rc, nI ql, zse, zto, ztu, zwe, zsl, zpa, zbr, zup, zti, zfa, cr', upd zru s' (zru s' + 1), zsu, zfi, zrp, zrs, zca, zre, ztk, zho, zhs, upd zst q 1, zcl, zpt, zky, zwo, zra, zcm, zen, upd zat q (nI s'), an', tr', ae', al', zqx) (nI now, nI rc, nI nx, nI ql, zwe, zsl, zpa, zti, zfa, cr', zsu, zsi, zwl, zbr, zup, zrp, zrs, zse, zca, zre, ztk, zho, zhs, zcl, zpt, zky, zwo, zra, upd zst q 1, upd zat q (nI s'), an', tr', zcm, zen, ae', al', zqy, zto, ztu, zso) :=
        md_mk hset hcli hsrv hrt hfnd (iv_req_start hreq hs') hr2 (iv_q_ne hqs hn0) htot
      exact ⟨_, _, hB, fun P hP => ⟨hqi, br_f z (aX _ (br_f rd_1n0 hP))⟩, fun P hP => ⟨hqi, br_f z (aY _ (br_f rd_1n0 (br_f rd_1n0 (by rw [ud_ud]; exact hP))))⟩⟩
theorem fl_pair {dn B q s : Nat} {qn : Nat → Nat} (hset : iv_set zse) (hcli : iv_cli zre zho) (hsrv : iv_srv zwe zti) (hrt : iv_rt rc zrs) (hfnd : iv_fnd B zfi zsi zwl) (hreq : iv_req zcl zky zpt zst zat) (hrun : iv_run nx zst zat zru)
    (hqs : iv_q 0 0 ql nx qn zqx zqy zst) (htot : iv_tot nx dn zto) (hnow : now < 2 ^ 30) (hnx : nx < 2 ^ 31) (hq : q < 32) (hqn : q < nx) (hst : zst q = 1) (hs : s < 6) (hat : zat q = nI s) :
    ∃ u' v', md_R now nx dn B 0 0 ql u' v' ∧ (∀ P : SX → Prop, P u' → wpX_fail P (nI now, nI rc, nI ql, zse, zto, ztu, zwe, zsl, zpa, zbr, zup, zti, zfa, zcr, upd zru s (zru s - 1), zsu, zfi, zrp, zrs, zca, zre, ztk, zho, zhs, zst, zcl, zpt, zky, zwo, zra, zcm, zen, zat, zan, ztr, zae, zal, zqx) (nI q)) ∧ (∀ P : SY → Prop, P v' → wY_finish_132 P (nI q) (nI s) (nI now) (nI rc) (nI nx) (nI ql) zwe zsl zpa zti zfa zcr zsu zsi zwl zbr zup zrp zrs zse zca zre ztk zho zhs zcl zpt zky zwo zra zst zat zan ztr zcm zen zae zal zqy zto ztu zso) := by
  have hqi : vp_in (nI q) 32 := vp_in_nI hq (by decide)
  have hsi : vp_in (nI s) 6 := vp_in_nI hs (by decide)
  have eq : (nI q).toNatClampNeg = q := nI_clamp (by omega)
  have es : (nI s).toNatClampNeg = s := nI_clamp (by omega)
  have hat' : zat (nI q).toNatClampNeg = nI s := by rw [eq]; exact hat
  have hr2 := iv_run_stop (w := 3) hrun hqn hq hs hst hat (by decide)
  have est : upd zst (nI q).toNatClampNeg 3 = upd zst q 3 := by rw [eq]
  have efa : upd zfa (nI s).toNatClampNeg (zfa (nI s).toNatClampNeg + 1) = upd zfa s (zfa s + 1) := by rw [es]
  have eti : upd zti (nI s).toNatClampNeg (nI now + zse 3) = upd zti s (nI now + zse 3) := by rw [es]
  obtain ⟨r, hr, er⟩ := hset.2.2
  have hge : 0 ≤ nI now + zse 3 := by rw [er, nI_add]; exact nI_pos' (by omega)
  have hsrv2 : iv_srv zwe (upd zti s (nI now + zse 3)) := iv_srv_ti hsrv (Or.inr hge)
  by_cases t : zti s = -1
  · have t0 : ¬ 0 ≤ zti s := by rw [t]; decide
    by_cases f : (upd zfa s (zfa s + 1)) s < 3
    · obtain ⟨u', v', hR, fX, fY⟩ := f5_pair now rc ql nx zae zal zan zat zbr zca zcl zcm zcr zen (upd zfa s (zfa s + 1)) zfi zho zhs zky zpa zpt zqx zqy zra zre zrp zrs (upd zru s (zru s - 1)) zse zsi zsl zso zst zsu zti ztk ztr ztu zup zwe zwl zwo zto hset hcli hsrv hrt hfnd hreq hr2 hqs htot hnx hq hqn hst
      refine ⟨u', v', hR, fun P hP => ?_, fun P hP => ?_⟩
      · refine ⟨hqi, nm_r hat' ⟨hsi, hsi, nm_r efa ⟨hsi, ?_⟩⟩⟩
        rw [es]
        exact br_t t ⟨hsi, br_t f (fX P hP)⟩
      · refine ⟨hqi, nm_r est ⟨hsi, hsi, nm_r efa ⟨hsi, ?_⟩⟩⟩
        rw [es]
        exact br_f t0 ⟨hsi, br_t f (fY P hP)⟩
    · obtain ⟨u', v', hR, fX, fY⟩ := f5_pair now rc ql nx zae zal zan zat zbr zca zcl zcm zcr zen (upd zfa s (zfa s + 1)) zfi zho zhs zky zpa zpt zqx zqy zra zre zrp zrs (upd zru s (zru s - 1)) zse zsi zsl zso zst zsu (upd zti s (nI now + zse 3)) ztk ztr ztu zup zwe zwl zwo zto hset hcli hsrv2 hrt hfnd hreq hr2 hqs htot hnx hq hqn hst
      refine ⟨u', v', hR, fun P hP => ?_, fun P hP => ?_⟩
      · refine ⟨hqi, nm_r hat' ⟨hsi, hsi, nm_r efa ⟨hsi, ?_⟩⟩⟩
        rw [es]
        exact br_t t ⟨hsi, br_f f ⟨hsi, nm_r eti (fX P hP)⟩⟩
      · refine ⟨hqi, nm_r est ⟨hsi, hsi, nm_r efa ⟨hsi, ?_⟩⟩⟩
        rw [es]
        exact br_f t0 ⟨hsi, br_f f ⟨hsi, nm_r eti (fY P hP)⟩⟩
  · have t0 : 0 ≤ zti s := (hsrv s hs).2.resolve_left t
    obtain ⟨u', v', hR, fX, fY⟩ := f5_pair now rc ql nx zae zal zan zat zbr zca zcl zcm zcr zen (upd zfa s (zfa s + 1)) zfi zho zhs zky zpa zpt zqx zqy zra zre zrp zrs (upd zru s (zru s - 1)) zse zsi zsl zso zst zsu (upd zti s (nI now + zse 3)) ztk ztr ztu zup zwe zwl zwo zto hset hcli hsrv2 hrt hfnd hreq hr2 hqs htot hnx hq hqn hst
    refine ⟨u', v', hR, fun P hP => ?_, fun P hP => ?_⟩
    · refine ⟨hqi, nm_r hat' ⟨hsi, hsi, nm_r efa ⟨hsi, ?_⟩⟩⟩
      rw [es]
      exact br_f t ⟨hsi, nm_r eti (fX P hP)⟩
    · refine ⟨hqi, nm_r est ⟨hsi, hsi, nm_r efa ⟨hsi, ?_⟩⟩⟩
      rw [es]
      exact br_t t0 ⟨hsi, nm_r eti (fY P hP)⟩
theorem eo_pair {dn B q s : Nat} {qn : Nat → Nat} (hset : iv_set zse) (hcli : iv_cli zre zho) (hsrv : iv_srv zwe zti) (hrt : iv_rt rc zrs) (hfnd : iv_fnd B zfi zsi zwl) (hreq : iv_req zcl zky zpt zst zat) (hrun : iv_run nx zst zat zru)
    (hqs : iv_q 0 0 ql nx qn zqx zqy zst) (htot : iv_tot nx dn zto) (hnow : now < 2 ^ 30) (hnx : nx < 2 ^ 31) (hdn : dn < 2 ^ 31) (hq : q < 32) (hqn : q < nx) (hst : zst q = 1) (hs : s < 6) (hat : zat q = nI s) :
    ∃ u' v' dn', dn' ≤ dn + 1 ∧ md_R now nx dn' B 0 0 ql u' v' ∧
    (∀ P : SX → Prop, P u' → ((zal q = 0 → (vp_in (nI s) 6 ∧ ((zbr s = 0 → wpX_succeed P (nI now, nI rc, nI ql, zse, zto, ztu, zwe, zsl, zpa, zbr, zup, zti, zfa, zcr, upd zru s (zru s - 1), zsu, zfi, zrp, zrs, zca, zre, ztk, zho, zhs, zst, zcl, zpt, zky, zwo, zra, zcm, zen, zat, zan, ztr, zae, zal, zqx) (nI q)) ∧ (¬ zbr s = 0 → wpX_fail P (nI now, nI rc, nI ql, zse, zto, ztu, zwe, zsl, zpa, zbr, zup, zti, zfa, zcr, upd zru s (zru s - 1), zsu, zfi, zrp, zrs, zca, zre, ztk, zho, zhs, zst, zcl, zpt, zky, zwo, zra, zcm, zen, zat, zan, ztr, zae, zal, zqx) (nI q))))) ∧ (¬ zal q = 0 → wpX_fail P (nI now, nI rc, nI ql, zse, zto, ztu, zwe, zsl, zpa, zbr, zup, zti, zfa, zcr, upd zru s (zru s - 1), zsu, zfi, zrp, zrs, zca, zre, ztk, zho, zhs, zst, zcl, zpt, zky, zwo, zra, zcm, zen, zat, zan, ztr, zae, zal, zqx) (nI q)))) ∧
    (∀ P : SY → Prop, P v' → wpY_finish P (nI now, nI rc, nI nx, nI ql, zwe, zsl, zpa, zti, zfa, zcr, zsu, zsi, zwl, zbr, zup, zrp, zrs, zse, zca, zre, ztk, zho, zhs, zcl, zpt, zky, zwo, zra, zst, zat, zan, ztr, zcm, zen, zae, zal, zqy, zto, ztu, zso) (nI q)) := by
  have hqi : vp_in (nI q) 32 := vp_in_nI hq (by decide)
  have hsi : vp_in (nI s) 6 := vp_in_nI hs (by decide)
  have eq : (nI q).toNatClampNeg = q := nI_clamp (by omega)
  have es : (nI s).toNatClampNeg = s := nI_clamp (by omega)
  have hat' : zat (nI q).toNatClampNeg = nI s := by rw [eq]; exact hat
  have hn0 : ¬ zst q = 0 := by rw [hst]; decide
  obtain ⟨c, hc, hcl⟩ := (hreq q hq).1
  by_cases a : zal q = 0
  · by_cases b : zbr s = 0
    · have hr2 := iv_run_stop (w := 2) hrun hqn hq hs hst hat (by decide)
      have hR : md_R now nx (dn + 1) B 0 0 ql (nI now, nI rc, nI ql, zse, vp_updL (vp_updL zto 1 (zto 1 + (nI now - zcm q).toInt64)) 2 (lN (dn + 1)), upd ztu (dn % 64) (nI now - zcm q), zwe, zsl, zpa, zbr, zup, upd zti s (-1), upd zfa s 0, zcr, upd zru s (zru s - 1), upd zsu s (zsu s + 1), zfi, zrp, zrs, zca, zre, ztk, upd zho c (nI s), upd zhs c (nI now), upd zst q 2, zcl, zpt, zky, zwo, zra, zcm, upd zen q (nI now), zat, zan, ztr, zae, zal, zqx)
          (nI now, nI rc, nI nx, nI ql, zwe, zsl, zpa, upd zti s (-1), upd zfa s 0, zcr, upd zsu s (zsu s + 1), zsi, zwl, zbr, zup, zrp, zrs, zse, zca, zre, ztk, upd zho c (nI s), upd zhs c (nI now), zcl, zpt, zky, zwo, zra, upd zst q 2, zat, zan, ztr, zcm, upd zen q (nI now), zae, zal, zqy, vp_updL (vp_updL zto 1 (zto 1 + (nI now - zcm q).toInt64)) 2 (lN (dn + 1)), upd ztu (dn % 64) (nI now - zcm q), zso) :=
        md_mk hset (iv_cli_ho hcli hs) (iv_srv_ti hsrv (Or.inl rfl)) hrt hfnd (iv_req_st hreq (by decide)) hr2 (iv_q_ne hqs hn0) ⟨by rw [pk_uLn (by decide), pk_uLn (by decide)]; exact htot.1, pk_uLs⟩
      exact ⟨_, _, dn + 1, Nat.le_refl _, hR, fun P hP => br_t a ⟨hsi, br_t b (sc_X now rc ql zae zal zan zat zbr zca zcl zcm zcr zen zfa zfi zho zhs zky zpa zpt zqx zra zre zrp zrs (upd zru s (zru s - 1)) zse zsl zst zsu zti ztk ztr ztu zup zwe zwo zto hq hs hc hat hcl hdn htot.2 P hP)⟩,
        fun P hP => sc_Y now rc ql nx zae zal zan zat zbr zca zcl zcm zcr zen zfa zho zhs zky zpa zpt zqy zra zre zrp zrs zse zsi zsl zso zsu zst zti ztk ztr ztu zup zwe zwl zwo zto hq hs hc hat hcl hdn htot.2 a b P hP⟩
    · obtain ⟨u', v', hR, fX, fY⟩ := fl_pair now rc ql nx zae zal zan zat zbr zca zcl zcm zcr zen zfa zfi zho zhs zky zpa zpt zqx zqy zra zre zrp zrs zru zse zsi zsl zso zst zsu zti ztk ztr ztu zup zwe zwl zwo zto hset hcli hsrv hrt hfnd hreq hrun hqs htot hnow hnx hq hqn hst hs hat
      refine ⟨u', v', dn, by omega, hR, fun P hP => br_t a ⟨hsi, br_f b (fX P hP)⟩, fun P hP => ?_⟩
      unfold wpY_finish
      rw [eq]
      refine ⟨hqi, nm_r hat ⟨hqi, br_t a ⟨hsi, ?_⟩⟩⟩
      rw [es]
      exact br_f b (fY P hP)
  · obtain ⟨u', v', hR, fX, fY⟩ := fl_pair now rc ql nx zae zal zan zat zbr zca zcl zcm zcr zen zfa zfi zho zhs zky zpa zpt zqx zqy zra zre zrp zrs zru zse zsi zsl zso zst zsu zti ztk ztr ztu zup zwe zwl zwo zto hset hcli hsrv hrt hfnd hreq hrun hqs htot hnow hnx hq hqn hst hs hat
    refine ⟨u', v', dn, by omega, hR, fun P hP => br_f a (fX P hP), fun P hP => ?_⟩
    unfold wpY_finish
    rw [eq]
    exact ⟨hqi, nm_r hat ⟨hqi, br_f a (fY P hP)⟩⟩
end
end
section
/-! the attempts that end in a unit: both loops -/
def yy_D (P : SY → Prop) (v : SY) : Prop := match v with
  | (g_time, g_routes, g_next, g_waiting, g_weight, g_slots, g_pace, g_till, g_failures, g_credit, g_successes, g_sick, g_well, g_broken, g_up, g_routePath, g_routeServers, g_setting, g_capacity, g_refill, g_tokens, g_home, g_homeTime, g_client, g_path, g_key, g_work, g_rank, g_state, g_at, g_attempts, g_tried, g_came, g_ended, g_ends, g_late, g_queue, g_total, g_took, g_sorted) => (g_next ≤ 32 → (∃ n84 : Nat, wY_unit_84 P n84 0 g_time g_routes g_next g_waiting g_weight g_slots g_pace g_till g_failures g_credit g_successes g_sick g_well g_broken g_up g_routePath g_routeServers g_setting g_capacity g_refill g_tokens g_home g_homeTime g_client g_path g_key g_work g_rank g_state g_at g_attempts g_tried g_came g_ended g_ends g_late g_queue g_total g_took g_sorted)) ∧ (¬ g_next ≤ 32 → (∀ x1_204 : Int32, x1_204 = g_next - 32 → (∃ n84 : Nat, wY_unit_84 P n84 x1_204 g_time g_routes g_next g_waiting g_weight g_slots g_pace g_till g_failures g_credit g_successes g_sick g_well g_broken g_up g_routePath g_routeServers g_setting g_capacity g_refill g_tokens g_home g_homeTime g_client g_path g_key g_work g_rank g_state g_at g_attempts g_tried g_came g_ended g_ends g_late g_queue g_total g_took g_sorted)))
theorem en_loop {now nx B w : Nat} (hnow : now < 2 ^ 30) (hnx : nx < 2 ^ 30) : ∀ d i : Nat, i + d = 32 → 32 ≤ nx + i → ∀ (dn : Nat) (u : SX) (v : SY), dn + d < 2 ^ 31 → md_R now nx dn B 0 0 w u v →
    ∃ u' v' dn', dn' ≤ dn + d ∧ md_R now nx dn' B 0 0 w u' v' ∧ (∀ (P : SX → Prop) (n : Nat), d < n → P u' → xx_E P (nI nx - 32) n (nI i) u) ∧ (∀ (P : SY → Prop) (n : Nat), d < n → yy_E P 1 (nI nx) v' → yy_E P n (nI (nx + i - 32)) v) := by
  intro d
  induction d with
  | zero =>
    intro i hi h32 dn u v hdn hR
    have e : i = 32 := by omega
    subst e
    have hR0 := hR
    obtain ⟨rc, qn, zae, zal, zan, zat, zbr, zca, zcl, zcm, zcr, zen, zfa, zfi, zho, zhs, zky, zpa, zpt, zqx, zqy, zra, zre, zrp, zrs, zru, zse, zsi, zsl, zso, zst, zsu, zti, ztk, ztr, ztu, zup, zwe, zwl, zwo, zto, rfl, rfl, _⟩ := hR
    have l : nI nx ≤ nI nx := Int32.le_rfl
    have e1 : nx + 32 - 32 = nx := by omega
    refine ⟨_, _, dn, by omega, hR0, fun P n hn hp => ?_, fun P n hn hp => ?_⟩
    · obtain ⟨m, rfl, hm⟩ := fu_m hn
      exact br_t (show (32 : Int32) ≤ nI 32 by decide) hp
    · obtain ⟨m, rfl, hm⟩ := fu_m hn
      rw [e1]
      exact br_t l (ex_t l hp)
  | succ d ih =>
    intro i hi h32 dn u v hdn hR
    have hR0 := hR
    obtain ⟨rc, qn, zae, zal, zan, zat, zbr, zca, zcl, zcm, zcr, zen, zfa, zfi, zho, zhs, zky, zpa, zpt, zqx, zqy, zra, zre, zrp, zrs, zru, zse, zsi, zsl, zso, zst, zsu, zti, ztk, ztr, ztu, zup, zwe, zwl, zwo, zto, rfl, rfl, hset, hcli, hsrv, hrt, hfnd, hreq, hrun, hqs, htot⟩ := hR
    have hq : (nx + i) % 32 < 32 := Nat.mod_lt _ (by decide)
    have eold : (nI nx - 32 + nI i) &&& 31 = nI ((nx + i) % 32) := ms_old (by omega)
    have erem : nI (nx + i - 32) - nI (nx + i - 32) / 32 * 32 = nI ((nx + i) % 32) := by rw [ms_rem (by omega)]; exact congrArg nI (by omega)
    generalize (nx + i) % 32 = q at hq eold erem
    have hqi : vp_in (nI q) 32 := vp_in_nI hq (by decide)
    have eq : (nI q).toNatClampNeg = q := nI_clamp (by omega)
    have hx : ¬ (32 : Int32) ≤ nI i := nI_ge (b := 32) (by omega) (by decide)
    have hy : ¬ nI nx ≤ nI (nx + i - 32) := nI_ge (by omega) (by omega)
    have h0 : ¬ (32 : Int32) = 0 := by decide
    have ey : nI (nx + i - 32) + 1 = nI (nx + (i + 1) - 32) := by rw [nI_1]; exact congrArg nI (by omega)
    by_cases hst : zst q = 1
    · by_cases hae : zae q = nI now
      · obtain ⟨s, hs, hat⟩ := (hreq q hq).2.2.2 hst
        have hsi : vp_in (nI s) 6 := vp_in_nI hs (by decide)
        have es : (nI s).toNatClampNeg = s := nI_clamp (by omega)
        have hqn : q < nx := Nat.lt_of_not_le (fun z => by have := hrun.1 q z hq; rw [hst] at this; exact absurd this (by decide))
        obtain ⟨u1, v1, dn1, hd1, hR1, X1, Y1⟩ := eo_pair now rc w nx zae zal zan zat zbr zca zcl zcm zcr zen zfa zfi zho zhs zky zpa zpt zqx zqy zra zre zrp zrs zru zse zsi zsl zso zst zsu zti ztk ztr ztu zup zwe zwl zwo zto hset hcli hsrv hrt hfnd hreq hrun hqs htot hnow (by omega) (by omega) hq hqn hst hs hat
        obtain ⟨u2, v2, dn2, hd2, hR2, X2, Y2⟩ := ih (i + 1) (by omega) (by omega) dn1 u1 v1 (by omega) hR1
        refine ⟨u2, v2, dn2, by omega, hR2, fun P n hn hp => ?_, fun P n hn hp => ?_⟩
        · obtain ⟨m, rfl, hm⟩ := fu_m hn
          have k := X2 P m (by omega) hp
          obtain ⟨g_now, g_routeCount, g_queueLength, g_settings, g_totals, g_tookUnits, g_weightOf, g_slotsOf, g_paceOf, g_isBroken, g_isUp, g_shutTill, g_failures, g_credit, g_running, g_succeeded, g_findings, g_routePath, g_routeServers, g_capacityOf, g_refillOf, g_tokenCount, g_homeServer, g_homeSince, g_stateOf, g_clientOf, g_pathOf, g_keyOf, g_workOf, g_rankOf, g_cameAt, g_endedAt, g_serverOf, g_attempts, g_triedServers, g_attemptEnd, g_attemptTooLong, g_queue⟩ := u1
          refine br_f hx (nm_r eold ⟨hqi, ?_⟩)
          rw [eq]
          refine br_t hst ⟨hqi, br_t hae ⟨hqi, nm_r hat ⟨hsi, hsi, ?_⟩⟩⟩
          rw [es]
          exact nm_e ⟨hqi, X1 _ (nm_r (nI_1 i) k)⟩
        · obtain ⟨m, rfl, hm⟩ := fu_m hn
          have k := Y2 P m (by omega) hp
          obtain ⟨g_time, g_routes, g_next, g_waiting, g_weight, g_slots, g_pace, g_till, g_failures, g_credit, g_successes, g_sick, g_well, g_broken, g_up, g_routePath, g_routeServers, g_setting, g_capacity, g_refill, g_tokens, g_home, g_homeTime, g_client, g_path, g_key, g_work, g_rank, g_state, g_at, g_attempts, g_tried, g_came, g_ended, g_ends, g_late, g_queue, g_total, g_took, g_sorted⟩ := v1
          refine br_f hy ⟨h0, nm_r erem ⟨hqi, ?_⟩⟩
          rw [eq]
          exact br_t hst ⟨hqi, br_t hae (Y1 _ (nm_r ey k))⟩
      · obtain ⟨u2, v2, dn2, hd2, hR2, X2, Y2⟩ := ih (i + 1) (by omega) (by omega) dn _ _ (by omega) hR0
        refine ⟨u2, v2, dn2, by omega, hR2, fun P n hn hp => ?_, fun P n hn hp => ?_⟩
        · obtain ⟨m, rfl, hm⟩ := fu_m hn
          refine br_f hx (nm_r eold ⟨hqi, ?_⟩)
          rw [eq]
          exact br_t hst ⟨hqi, br_f hae (nm_r (nI_1 i) (X2 P m (by omega) hp))⟩
        · obtain ⟨m, rfl, hm⟩ := fu_m hn
          refine br_f hy ⟨h0, nm_r erem ⟨hqi, ?_⟩⟩
          rw [eq]
          exact br_t hst ⟨hqi, br_f hae (nm_r ey (Y2 P m (by omega) hp))⟩
    · obtain ⟨u2, v2, dn2, hd2, hR2, X2, Y2⟩ := ih (i + 1) (by omega) (by omega) dn _ _ (by omega) hR0
      refine ⟨u2, v2, dn2, by omega, hR2, fun P n hn hp => ?_, fun P n hn hp => ?_⟩
      · obtain ⟨m, rfl, hm⟩ := fu_m hn
        refine br_f hx (nm_r eold ⟨hqi, ?_⟩)
        rw [eq]
        exact br_f hst (nm_r (nI_1 i) (X2 P m (by omega) hp))
      · obtain ⟨m, rfl, hm⟩ := fu_m hn
        refine br_f hy ⟨h0, nm_r erem ⟨hqi, ?_⟩⟩
        rw [eq]
        exact br_f hst (nm_r ey (Y2 P m (by omega) hp))
section
variable (now rc ql nx : Nat) (zae zal zan zat zbr zca zcl zcm zcr zen zfa zfi zho zhs zky zpa zpt zqx zqy zra zre zrp zrs zru zse zsi zsl zso zst zsu zsy zti ztk ztr ztu zup zwe zwl zwo : Nat → Int32) (zto : Nat → Int64)
theorem en_skip (h0 : ∀ q, nx ≤ q → q < 32 → zst q = 0) (P : SX → Prop) (h : ∀ n, nx < n → xx_E P (nI nx - 32) n (nI (32 - nx)) (nI now, nI rc, nI ql, zse, zto, ztu, zwe, zsl, zpa, zbr, zup, zti, zfa, zcr, zru, zsu, zfi, zrp, zrs, zca, zre, ztk, zho, zhs, zst, zcl, zpt, zky, zwo, zra, zcm, zen, zat, zan, ztr, zae, zal, zqx)) : ∀ e i n : Nat, i + e + nx = 32 → e + nx < n → xx_E P (nI nx - 32) n (nI i) (nI now, nI rc, nI ql, zse, zto, ztu, zwe, zsl, zpa, zbr, zup, zti, zfa, zcr, zru, zsu, zfi, zrp, zrs, zca, zre, ztk, zho, zhs, zst, zcl, zpt, zky, zwo, zra, zcm, zen, zat, zan, ztr, zae, zal, zqx) := by
  intro e
  induction e with
  | zero =>
    intro i n hi hn
    rw [show i = 32 - nx from by omega]
    exact h n (by omega)
  | succ e ih =>
    intro i n hi hn
    have eold : (nI nx - 32 + nI i) &&& 31 = nI ((nx + i) % 32) := ms_old (by omega)
    rw [show (nx + i) % 32 = nx + i from Nat.mod_eq_of_lt (by omega)] at eold
    have hqi : vp_in (nI (nx + i)) 32 := vp_in_nI (by omega) (by decide)
    have eq : (nI (nx + i)).toNatClampNeg = nx + i := nI_clamp (by omega)
    have hx : ¬ (32 : Int32) ≤ nI i := nI_ge (b := 32) (by omega) (by decide)
    have hst : ¬ zst (nx + i) = 1 := by rw [h0 (nx + i) (by omega) (by omega)]; decide
    obtain ⟨m, rfl, hm⟩ := fu_m hn
    refine br_f hx (nm_r eold ⟨hqi, ?_⟩)
    rw [eq]
    exact br_f hst (nm_r (nI_1 i) (ih (i + 1) m (by omega) (by omega)))
end
theorem ea_pair {now nx dn B w : Nat} {u : SX} {v : SY} (hnow : now < 2 ^ 30) (hnx : nx < 2 ^ 30) (hdn : dn < 2 ^ 30) (hR : md_R now nx dn B 0 0 w u v) :
    ∃ u' v' dn', dn' ≤ dn + 32 ∧ md_R now nx dn' B 0 0 w u' v' ∧ (∀ P : SX → Prop, P u' → wpX_endAttempts P u) ∧ (∀ P : SY → Prop, yy_E P 1 (nI nx) v' → yy_D P v) := by
  by_cases z : nx ≤ 32
  · obtain ⟨u', v', dn', hd, hR', X, Y⟩ := en_loop (now := now) (nx := nx) (B := B) (w := w) hnow hnx nx (32 - nx) (by omega) (by omega) dn u v (by omega) hR
    obtain ⟨rc, qn, zae, zal, zan, zat, zbr, zca, zcl, zcm, zcr, zen, zfa, zfi, zho, zhs, zky, zpa, zpt, zqx, zqy, zra, zre, zrp, zrs, zru, zse, zsi, zsl, zso, zst, zsu, zti, ztk, ztr, ztu, zup, zwe, zwl, zwo, zto, rfl, rfl, hset, hcli, hsrv, hrt, hfnd, hreq, hrun, hqs, htot⟩ := hR
    have e1 : (zto 0).toInt32 - 32 = nI nx - 32 := by rw [htot.1, lN_i]
    have e0 : nx + (32 - nx) - 32 = 0 := by omega
    rw [e0] at Y
    exact ⟨u', v', dn', by omega, hR', fun P hp => nm_r e1 ⟨33, en_skip now rc w nx zae zal zan zat zbr zca zcl zcm zcr zen zfa zfi zho zhs zky zpa zpt zqx zra zre zrp zrs zru zse zsl zst zsu zti ztk ztr ztu zup zwe zwo zto hrun.1 P (fun n hn => X P n hn hp) (32 - nx) 0 33 (by omega) (by omega)⟩,
      fun P hp => br_t (nI_le (b := 32) z (by decide)) ⟨nx + 1, Y P (nx + 1) (by omega) hp⟩⟩
  · obtain ⟨u', v', dn', hd, hR', X, Y⟩ := en_loop (now := now) (nx := nx) (B := B) (w := w) hnow hnx 32 0 (by omega) (by omega) dn u v (by omega) hR
    obtain ⟨rc, qn, zae, zal, zan, zat, zbr, zca, zcl, zcm, zcr, zen, zfa, zfi, zho, zhs, zky, zpa, zpt, zqx, zqy, zra, zre, zrp, zrs, zru, zse, zsi, zsl, zso, zst, zsu, zti, ztk, ztr, ztu, zup, zwe, zwl, zwo, zto, rfl, rfl, hset, hcli, hsrv, hrt, hfnd, hreq, hrun, hqs, htot⟩ := hR
    have e1 : (zto 0).toInt32 - 32 = nI nx - 32 := by rw [htot.1, lN_i]
    have e2 : nI nx - 32 = nI (nx + 0 - 32) := pk_sub (b := 32) (by omega)
    exact ⟨u', v', dn', by omega, hR', fun P hp => nm_r e1 ⟨33, X P 33 (by omega) hp⟩,
      fun P hp => br_f (fun y => z ((nI_leI (b := 32) (by omega) (by decide)).mp y)) (nm_r e2 ⟨33, Y P 33 (by omega) hp⟩)⟩
end
section
/-! checks of health -/
theorem cx_1 {c : Nat} (h : c < 2 ^ 31) : -nI c < 2 := by rw [Int32.lt_iff_toInt_lt, ms_i2, iv_neg h]; omega
theorem cx_2 {c : Nat} (h : c < 2 ^ 31) : -2 < -nI c ↔ c ≤ 1 := by rw [Int32.lt_iff_toInt_lt, ms_im2, iv_neg h]; omega
theorem cx_3 {c : Nat} (h : c < 2 ^ 31) : nI c ≤ 1 ↔ c ≤ 1 := by rw [Int32.le_iff_toInt_le, ms_i1, nI_toInt h]; omega
theorem cx_4 {c : Nat} (h : c < 2 ^ 31) : nI c < 2 ↔ c ≤ 1 := by rw [Int32.lt_iff_toInt_lt, ms_i2, nI_toInt h]; omega
theorem cx_5 {c : Nat} (h : c < 2 ^ 31) : -2 < nI c := by rw [Int32.lt_iff_toInt_lt, ms_im2, nI_toInt h]; omega
theorem cx_6 : (0 : Int32) ≤ 1 := by decide
def fd_ok (B : Nat) (f si w : Int32) : Prop := ∃ a : Nat, a ≤ B ∧ ((f = nI a ∧ si = nI a ∧ w = 0) ∨ (f = -nI a ∧ si = 0 ∧ w = nI a))
section
variable (now rc ql nx : Nat) (zae zal zan zat zbr zca zcl zcm zcr zen zfa zfi zho zhs zky zpa zpt zqx zqy zra zre zrp zrs zru zse zsi zsl zso zst zsu zsy zti ztk ztr ztu zup zwe zwl zwo : Nat → Int32) (zto : Nat → Int64)
theorem c7_n {s c : Nat} (hs : s < 6) (hc : c < 2 ^ 31) (P : SX → Prop) (J : Int32 → (Nat → Int32) → (Nat → Int64) → (Nat → Int32) → (Nat → Int32) → (Nat → Int32) → (Nat → Int32) → (Nat → Int32) → (Nat → Int32) → (Nat → Int32) → (Nat → Int32) → (Nat → Int32) → (Nat → Int32) → (Nat → Int32) → (Nat → Int32) → (Nat → Int32) → (Nat → Int32) → (Nat → Int32) → (Nat → Int32) → (Nat → Int32) → (Nat → Int32) → (Nat → Int32) → (Nat → Int32) → (Nat → Int32) → (Nat → Int32) → (Nat → Int32) → (Nat → Int32) → (Nat → Int32) → (Nat → Int32) → (Nat → Int32) → (Nat → Int32) → (Nat → Int32) → (Nat → Int32) → (Nat → Int32) → (Nat → Int32) → (Nat → Int32) → Prop)
    (hf : zfi s = -nI c) (hJ : J (nI (s + 1)) zse zto ztu zwe zsl zpa zbr (if c ≤ 1 then zup else upd zup s 1) zti zfa zcr zru zsu zfi zrp zrs zca zre ztk zho zhs zst zcl zpt zky zwo zra zcm zen zat zan ztr zae zal zqx) : wX_checkServers_74 P J (nI s) (nI now) (nI rc) (nI ql) zse zto ztu zwe zsl zpa zbr zup zti zfa zcr zru zsu zfi zrp zrs zca zre ztk zho zhs zst zcl zpt zky zwo zra zcm zen zat zan ztr zae zal zqx := by
  have hi : vp_in (nI s) 6 := vp_in_nI hs (by decide)
  have es : (nI s).toNatClampNeg = s := nI_clamp (by omega)
  refine ⟨hi, ?_⟩
  rw [es, hf, ms_nb1, ms_nb0]
  refine br_t (cx_1 hc) ⟨hi, ?_⟩
  by_cases z : c ≤ 1
  · rw [if_pos z] at hJ
    exact br_t ((cx_2 hc).mpr z) (nm_r (nI_1 s) hJ)
  · rw [if_neg z] at hJ
    exact br_f (fun y => z ((cx_2 hc).mp y)) ⟨hi, nm_e (nm_r (nI_1 s) hJ)⟩
theorem c7_b {s c : Nat} (hs : s < 6) (hc : c < 2 ^ 31) (P : SX → Prop) (J : Int32 → (Nat → Int32) → (Nat → Int64) → (Nat → Int32) → (Nat → Int32) → (Nat → Int32) → (Nat → Int32) → (Nat → Int32) → (Nat → Int32) → (Nat → Int32) → (Nat → Int32) → (Nat → Int32) → (Nat → Int32) → (Nat → Int32) → (Nat → Int32) → (Nat → Int32) → (Nat → Int32) → (Nat → Int32) → (Nat → Int32) → (Nat → Int32) → (Nat → Int32) → (Nat → Int32) → (Nat → Int32) → (Nat → Int32) → (Nat → Int32) → (Nat → Int32) → (Nat → Int32) → (Nat → Int32) → (Nat → Int32) → (Nat → Int32) → (Nat → Int32) → (Nat → Int32) → (Nat → Int32) → (Nat → Int32) → (Nat → Int32) → (Nat → Int32) → Prop)
    (hf : zfi s = nI c) (hJ : J (nI (s + 1)) zse zto ztu zwe zsl zpa zbr (if c ≤ 1 then zup else upd zup s 0) zti zfa zcr zru zsu zfi zrp zrs zca zre ztk zho zhs zst zcl zpt zky zwo zra zcm zen zat zan ztr zae zal zqx) : wX_checkServers_74 P J (nI s) (nI now) (nI rc) (nI ql) zse zto ztu zwe zsl zpa zbr zup zti zfa zcr zru zsu zfi zrp zrs zca zre ztk zho zhs zst zcl zpt zky zwo zra zcm zen zat zan ztr zae zal zqx := by
  have hi : vp_in (nI s) 6 := vp_in_nI hs (by decide)
  have es : (nI s).toNatClampNeg = s := nI_clamp (by omega)
  refine ⟨hi, ?_⟩
  rw [es, hf, ms_nb1, ms_nb0]
  by_cases z : c ≤ 1
  · rw [if_pos z] at hJ
    exact br_t ((cx_4 hc).mpr z) ⟨hi, br_t (cx_5 hc) (nm_r (nI_1 s) hJ)⟩
  · rw [if_neg z] at hJ
    exact br_f (fun y => z ((cx_4 hc).mp y)) ⟨hi, nm_e (nm_r (nI_1 s) hJ)⟩
theorem c1_n {s a B : Nat} (hs : s < 6) (hB : B < 2 ^ 30) (ha : a ≤ B) (h : (zfi s = nI a ∧ zsi s = nI a ∧ zwl s = 0) ∨ (zfi s = -nI a ∧ zsi s = 0 ∧ zwl s = nI a)) (hbr : zbr s = 0) :
    ∃ (f' si' w' : Int32) (up' : Nat → Int32), fd_ok (B + 1) f' si' w' ∧
    (∀ (P : SX → Prop) (m : Nat), wX_checkServers_2 P (nI now) (nI rc) (nI ql) m (nI (s + 1)) zse zto ztu zwe zsl zpa zbr up' zti zfa zcr zru zsu (upd zfi s f') zrp zrs zca zre ztk zho zhs zst zcl zpt zky zwo zra zcm zen zat zan ztr zae zal zqx → wX_checkServers_2 P (nI now) (nI rc) (nI ql) (m + 1) (nI s) zse zto ztu zwe zsl zpa zbr zup zti zfa zcr zru zsu zfi zrp zrs zca zre ztk zho zhs zst zcl zpt zky zwo zra zcm zen zat zan ztr zae zal zqx) ∧
    (∀ Q : SY → Prop, Q (nI now, nI rc, nI nx, nI ql, zwe, zsl, zpa, zti, zfa, zcr, zsu, upd zsi s si', upd zwl s w', zbr, up', zrp, zrs, zse, zca, zre, ztk, zho, zhs, zcl, zpt, zky, zwo, zra, zsy, zat, zan, ztr, zcm, zen, zae, zal, zqy, zto, ztu, zso) → wpY_check Q (nI now, nI rc, nI nx, nI ql, zwe, zsl, zpa, zti, zfa, zcr, zsu, zsi, zwl, zbr, zup, zrp, zrs, zse, zca, zre, ztk, zho, zhs, zcl, zpt, zky, zwo, zra, zsy, zat, zan, ztr, zcm, zen, zae, zal, zqy, zto, ztu, zso) (nI s)) := by
  obtain ⟨c, hc, h1, h2, h3⟩ := ck_w hB ha h
  have hc' : c < 2 ^ 31 := by omega
  have hi : vp_in (nI s) 6 := vp_in_nI hs (by decide)
  have es : (nI s).toNatClampNeg = s := nI_clamp (by omega)
  have h6 : ¬ (6 : Int32) ≤ nI s := nI_ge (b := 6) hs (by decide)
  have hbr' : zbr (nI s).toNatClampNeg = 0 := by rw [es]; exact hbr
  refine ⟨-nI c, 0, nI c, if c ≤ 1 then zup else upd zup s 1, ⟨c, hc, Or.inr ⟨rfl, rfl, rfl⟩⟩, fun P m hp => ?_, fun Q hQ => ?_⟩
  · refine br_f h6 ⟨hi, ?_⟩
    rw [es]
    refine br_t hbr ⟨hi, ?_⟩
    by_cases z : zfi s < 0
    · refine br_f (Int32.not_le.mpr z) ⟨hi, hi, nm_r (show upd zfi (nI s).toNatClampNeg (zfi s - 1) = upd zfi s (-nI c) by rw [es, h2 z]) ?_⟩
      exact c7_n now rc ql zae zal zan zat zbr zca zcl zcm zcr zen zfa (upd zfi s (-nI c)) zho zhs zky zpa zpt zqx zra zre zrp zrs zru zse zsl zst zsu zti ztk ztr ztu zup zwe zwo zto hs hc' P _ pk_us hp
    · refine br_t (Int32.not_lt.mp z) ⟨hi, nm_r (show upd zfi (nI s).toNatClampNeg (-1) = upd zfi s (-nI c) by rw [es, h3 z]) ?_⟩
      exact c7_n now rc ql zae zal zan zat zbr zca zcl zcm zcr zen zfa (upd zfi s (-nI c)) zho zhs zky zpa zpt zqx zra zre zrp zrs zru zse zsl zst zsu zti ztk ztr ztu zup zwe zwo zto hs hc' P _ pk_us hp
  · unfold wpY_check
    refine ⟨hi, br_t hbr' ⟨hi, nm_r (show upd zsi (nI s).toNatClampNeg 0 = upd zsi s 0 by rw [es]) ⟨hi, br_t hbr' ⟨hi, hi, nm_r (show upd zwl (nI s).toNatClampNeg (zwl (nI s).toNatClampNeg + 1) = upd zwl s (nI c) by rw [es, h1]) ⟨hi, ?_⟩⟩⟩⟩⟩
    rw [es, pk_us]
    refine br_t cx_6 ⟨hi, ?_⟩
    rw [es, pk_us, ms_nb1]
    by_cases z : c ≤ 1
    · rw [if_pos z] at hQ
      exact br_t ((cx_3 hc').mpr z) hQ
    · rw [if_neg z] at hQ
      exact br_f (fun y => z ((cx_3 hc').mp y)) ⟨hi, nm_e hQ⟩
theorem c1_b {s a B : Nat} (hs : s < 6) (hB : B < 2 ^ 30) (ha : a ≤ B) (h : (zfi s = nI a ∧ zsi s = nI a ∧ zwl s = 0) ∨ (zfi s = -nI a ∧ zsi s = 0 ∧ zwl s = nI a)) (hbr : ¬ zbr s = 0) :
    ∃ (f' si' w' : Int32) (up' : Nat → Int32), fd_ok (B + 1) f' si' w' ∧
    (∀ (P : SX → Prop) (m : Nat), wX_checkServers_2 P (nI now) (nI rc) (nI ql) m (nI (s + 1)) zse zto ztu zwe zsl zpa zbr up' zti zfa zcr zru zsu (upd zfi s f') zrp zrs zca zre ztk zho zhs zst zcl zpt zky zwo zra zcm zen zat zan ztr zae zal zqx → wX_checkServers_2 P (nI now) (nI rc) (nI ql) (m + 1) (nI s) zse zto ztu zwe zsl zpa zbr zup zti zfa zcr zru zsu zfi zrp zrs zca zre ztk zho zhs zst zcl zpt zky zwo zra zcm zen zat zan ztr zae zal zqx) ∧
    (∀ Q : SY → Prop, Q (nI now, nI rc, nI nx, nI ql, zwe, zsl, zpa, zti, zfa, zcr, zsu, upd zsi s si', upd zwl s w', zbr, up', zrp, zrs, zse, zca, zre, ztk, zho, zhs, zcl, zpt, zky, zwo, zra, zsy, zat, zan, ztr, zcm, zen, zae, zal, zqy, zto, ztu, zso) → wpY_check Q (nI now, nI rc, nI nx, nI ql, zwe, zsl, zpa, zti, zfa, zcr, zsu, zsi, zwl, zbr, zup, zrp, zrs, zse, zca, zre, ztk, zho, zhs, zcl, zpt, zky, zwo, zra, zsy, zat, zan, ztr, zcm, zen, zae, zal, zqy, zto, ztu, zso) (nI s)) := by
  obtain ⟨c, hc, h1, h2, h3⟩ := ck_b hB ha h
  have hc' : c < 2 ^ 31 := by omega
  have hi : vp_in (nI s) 6 := vp_in_nI hs (by decide)
  have es : (nI s).toNatClampNeg = s := nI_clamp (by omega)
  have h6 : ¬ (6 : Int32) ≤ nI s := nI_ge (b := 6) hs (by decide)
  have hbr' : ¬ zbr (nI s).toNatClampNeg = 0 := by rw [es]; exact hbr
  refine ⟨nI c, nI c, 0, if c ≤ 1 then zup else upd zup s 0, ⟨c, hc, Or.inl ⟨rfl, rfl, rfl⟩⟩, fun P m hp => ?_, fun Q hQ => ?_⟩
  · refine br_f h6 ⟨hi, ?_⟩
    rw [es]
    refine br_f hbr ⟨hi, ?_⟩
    by_cases z : 0 < zfi s
    · refine br_f (Int32.not_le.mpr z) ⟨hi, hi, nm_r (show upd zfi (nI s).toNatClampNeg (zfi s + 1) = upd zfi s (nI c) by rw [es, h2 z]) ?_⟩
      exact c7_b now rc ql zae zal zan zat zbr zca zcl zcm zcr zen zfa (upd zfi s (nI c)) zho zhs zky zpa zpt zqx zra zre zrp zrs zru zse zsl zst zsu zti ztk ztr ztu zup zwe zwo zto hs hc' P _ pk_us hp
    · refine br_t (Int32.not_lt.mp z) ⟨hi, nm_r (show upd zfi (nI s).toNatClampNeg 1 = upd zfi s (nI c) by rw [es, ← h3 z]) ?_⟩
      exact c7_b now rc ql zae zal zan zat zbr zca zcl zcm zcr zen zfa (upd zfi s (nI c)) zho zhs zky zpa zpt zqx zra zre zrp zrs zru zse zsl zst zsu zti ztk ztr ztu zup zwe zwo zto hs hc' P _ pk_us hp
  · unfold wpY_check
    refine ⟨hi, br_f hbr' ⟨hi, hi, nm_r (show upd zsi (nI s).toNatClampNeg (zsi (nI s).toNatClampNeg + 1) = upd zsi s (nI c) by rw [es, h1]) ⟨hi, br_f hbr' ⟨hi, nm_r (show upd zwl (nI s).toNatClampNeg 0 = upd zwl s 0 by rw [es]) ⟨hi, ?_⟩⟩⟩⟩⟩
    rw [es, pk_us, ms_nb0]
    by_cases z : c ≤ 1
    · rw [if_pos z] at hQ
      refine br_t ((cx_3 hc').mpr z) ⟨hi, ?_⟩
      rw [es, pk_us]
      exact br_t cx_6 hQ
    · rw [if_neg z] at hQ
      refine br_f (fun y => z ((cx_3 hc').mp y)) ⟨hi, nm_e ⟨hi, ?_⟩⟩
      rw [es, pk_us]
      exact br_t cx_6 hQ
end
section
variable (now rc ql nx : Nat) (zae zal zan zat zbr zca zcl zcm zcr zen zfa zfi zho zhs zky zpa zpt zqx zqy zra zre zrp zrs zru zse zsi zsl zso zst zsu zsy zti ztk ztr ztu zup zwe zwl zwo : Nat → Int32) (zto : Nat → Int64)
theorem cs_loop {B : Nat} (hB : B < 2 ^ 30) (hz0 : ¬ zse 4 = 0) (hz : nI now - nI now / zse 4 * zse 4 = 0) : ∀ d s : Nat, s + d = 6 → ∀ fi si wl up : Nat → Int32, (∀ j, j < 6 → fd_ok (B + 1) (fi j) (si j) (wl j)) → (∀ j, s ≤ j → j < 6 → fd_ok B (fi j) (si j) (wl j)) →
    ∃ fi' si' wl' up' : Nat → Int32, iv_fnd (B + 1) fi' si' wl' ∧ (∀ (P : SX → Prop) (n : Nat), d < n → P (nI now, nI rc, nI ql, zse, zto, ztu, zwe, zsl, zpa, zbr, up', zti, zfa, zcr, zru, zsu, fi', zrp, zrs, zca, zre, ztk, zho, zhs, zst, zcl, zpt, zky, zwo, zra, zcm, zen, zat, zan, ztr, zae, zal, zqx) → wX_checkServers_2 P (nI now) (nI rc) (nI ql) n (nI s) zse zto ztu zwe zsl zpa zbr up zti zfa zcr zru zsu fi zrp zrs zca zre ztk zho zhs zst zcl zpt zky zwo zra zcm zen zat zan ztr zae zal zqx) ∧
    (∀ (P : SY → Prop) (n : Nat), d < n → wY_unit_133 P 1 (nI 6) (nI now) (nI rc) (nI nx) (nI ql) zwe zsl zpa zti zfa zcr zsu si' wl' zbr up' zrp zrs zse zca zre ztk zho zhs zcl zpt zky zwo zra zsy zat zan ztr zcm zen zae zal zqy zto ztu zso → wY_unit_133 P n (nI s) (nI now) (nI rc) (nI nx) (nI ql) zwe zsl zpa zti zfa zcr zsu si wl zbr up zrp zrs zse zca zre ztk zho zhs zcl zpt zky zwo zra zsy zat zan ztr zcm zen zae zal zqy zto ztu zso) := by
  intro d
  induction d with
  | zero =>
    intro s hs fi si wl up h1 h2
    have e : s = 6 := by omega
    subst e
    have l66 : (6 : Int32) ≤ nI 6 := by decide
    exact ⟨fi, si, wl, up, h1, fun P n hn hp => (by obtain ⟨m, rfl, hm_⟩ := fu_m hn; exact br_t l66 hp), fun P n hn hp => (by obtain ⟨m, rfl, hm_⟩ := fu_m hn; exact br_t l66 (ex_t l66 hp))⟩
  | succ d ih =>
    intro s hs fi si wl up h1 h2
    have hs6 : s < 6 := by omega
    have h6 : ¬ (6 : Int32) ≤ nI s := nI_ge (b := 6) hs6 (by decide)
    obtain ⟨a, ha, hf⟩ := h2 s (Nat.le_refl _) hs6
    have c1 : ∃ (f' si' w' : Int32) (up' : Nat → Int32), fd_ok (B + 1) f' si' w' ∧
        (∀ (P : SX → Prop) (m : Nat), wX_checkServers_2 P (nI now) (nI rc) (nI ql) m (nI (s + 1)) zse zto ztu zwe zsl zpa zbr up' zti zfa zcr zru zsu (upd fi s f') zrp zrs zca zre ztk zho zhs zst zcl zpt zky zwo zra zcm zen zat zan ztr zae zal zqx → wX_checkServers_2 P (nI now) (nI rc) (nI ql) (m + 1) (nI s) zse zto ztu zwe zsl zpa zbr up zti zfa zcr zru zsu fi zrp zrs zca zre ztk zho zhs zst zcl zpt zky zwo zra zcm zen zat zan ztr zae zal zqx) ∧
        (∀ Q : SY → Prop, Q (nI now, nI rc, nI nx, nI ql, zwe, zsl, zpa, zti, zfa, zcr, zsu, upd si s si', upd wl s w', zbr, up', zrp, zrs, zse, zca, zre, ztk, zho, zhs, zcl, zpt, zky, zwo, zra, zsy, zat, zan, ztr, zcm, zen, zae, zal, zqy, zto, ztu, zso) → wpY_check Q (nI now, nI rc, nI nx, nI ql, zwe, zsl, zpa, zti, zfa, zcr, zsu, si, wl, zbr, up, zrp, zrs, zse, zca, zre, ztk, zho, zhs, zcl, zpt, zky, zwo, zra, zsy, zat, zan, ztr, zcm, zen, zae, zal, zqy, zto, ztu, zso) (nI s)) := by
      by_cases z : zbr s = 0
      · exact c1_n now rc ql nx zae zal zan zat zbr zca zcl zcm zcr zen zfa fi zho zhs zky zpa zpt zqx zqy zra zre zrp zrs zru zse si zsl zso zst zsu zsy zti ztk ztr ztu up zwe wl zwo zto hs6 hB ha hf z
      · exact c1_b now rc ql nx zae zal zan zat zbr zca zcl zcm zcr zen zfa fi zho zhs zky zpa zpt zqx zqy zra zre zrp zrs zru zse si zsl zso zst zsu zsy zti ztk ztr ztu up zwe wl zwo zto hs6 hB ha hf z
    obtain ⟨f', si', w', up', hok, X1, Y1⟩ := c1
    obtain ⟨fi2, si2, wl2, up2, hfnd, X2, Y2⟩ := ih (s + 1) (by omega) (upd fi s f') (upd si s si') (upd wl s w') up'
      (fun j hj => by
        by_cases e : j = s
        · rw [e, pk_us, pk_us, pk_us]; exact hok
        · rw [pk_un e, pk_un e, pk_un e]; exact h1 j hj)
      (fun j hj hj6 => by rw [pk_un (by omega), pk_un (by omega), pk_un (by omega)]; exact h2 j (by omega) hj6)
    refine ⟨fi2, si2, wl2, up2, hfnd, fun P n hn hp => ?_, fun P n hn hp => ?_⟩
    · obtain ⟨m, rfl, hm⟩ := fu_m hn
      exact X1 P m (X2 P m (by omega) hp)
    · obtain ⟨m, rfl, hm⟩ := fu_m hn
      exact br_f h6 ⟨hz0, br_t hz (Y1 _ (nm_r (nI_1 s) (Y2 P m (by omega) hp)))⟩
end
end
section
/-! the queue: what expires, what starts -/
theorem xw_loop {now nx dn B w : Nat} (hnx : nx < 2 ^ 30) : ∀ d k : Nat, k + d = w → ∀ (l : Nat) (dn : Nat) (u : SX) (v : SY), md_R now nx dn B l k w u v →
    ∃ u' v' l', md_R now nx dn B 0 0 l' u' v' ∧ (∀ (P : SX → Prop) (n : Nat), d < n → P u' → xx_W P n (nI l) (nI k) u) ∧ (∀ (P : SY → Prop) (n : Nat), d < n → (∃ n245 : Nat, yy_S P n245 0 0 v') → yy_W P n (nI l) (nI k) v) := by
  intro d
  induction d with
  | zero =>
    intro k hk l dn u v hR
    have e : k = w := by omega
    subst e
    obtain ⟨rc, qn, zae, zal, zan, zat, zbr, zca, zcl, zcm, zcr, zen, zfa, zfi, zho, zhs, zky, zpa, zpt, zqx, zqy, zra, zre, zrp, zrs, zru, zse, zsi, zsl, zso, zst, zsu, zti, ztk, ztr, ztu, zup, zwe, zwl, zwo, zto, rfl, rfl, hset, hcli, hsrv, hrt, hfnd, hreq, hrun, hqs, htot⟩ := hR
    have le : nI k ≤ nI k := Int32.le_rfl
    have hR' : md_R now nx dn B 0 0 l (nI now, nI rc, nI l, zse, zto, ztu, zwe, zsl, zpa, zbr, zup, zti, zfa, zcr, zru, zsu, zfi, zrp, zrs, zca, zre, ztk, zho, zhs, zst, zcl, zpt, zky, zwo, zra, zcm, zen, zat, zan, ztr, zae, zal, zqx) (nI now, nI rc, nI nx, nI l, zwe, zsl, zpa, zti, zfa, zcr, zsu, zsi, zwl, zbr, zup, zrp, zrs, zse, zca, zre, ztk, zho, zhs, zcl, zpt, zky, zwo, zra, zst, zat, zan, ztr, zcm, zen, zae, zal, zqy, zto, ztu, zso) := md_mk hset hcli hsrv hrt hfnd hreq hrun (iv_q_end hqs) htot
    refine ⟨_, _, l, hR', fun P n hn hp => ?_, fun P n hn hp => ?_⟩
    · obtain ⟨m, rfl, hm⟩ := fu_m hn
      exact br_t le hp
    · obtain ⟨m, rfl, hm⟩ := fu_m hn
      exact br_t le hp
  | succ d ih =>
    intro k hk l dn u v hR
    obtain ⟨rc, qn, zae, zal, zan, zat, zbr, zca, zcl, zcm, zcr, zen, zfa, zfi, zho, zhs, zky, zpa, zpt, zqx, zqy, zra, zre, zrp, zrs, zru, zse, zsi, zsl, zso, zst, zsu, zti, ztk, ztr, ztu, zup, zwe, zwl, zwo, zto, rfl, rfl, hset, hcli, hsrv, hrt, hfnd, hreq, hrun, hqs, htot⟩ := hR
    obtain ⟨q1, q2, q3, q4, q5, q6⟩ := hqs
    have hkw : k < w := by omega
    obtain ⟨k1, k2, k3⟩ := q5 k (Or.inr ⟨Nat.le_refl _, hkw⟩)
    have hq : qn k % 32 < 32 := Nat.mod_lt _ (by decide)
    have hqn : qn k % 32 < nx := Nat.lt_of_le_of_lt (Nat.mod_le _ _) k2
    have hqi : vp_in (nI (qn k % 32)) 32 := vp_in_nI hq (by decide)
    have eq : (nI (qn k % 32)).toNatClampNeg = qn k % 32 := nI_clamp (by omega)
    have ek : (nI k).toNatClampNeg = k := nI_clamp (by omega)
    have el : (nI l).toNatClampNeg = l := nI_clamp (by omega)
    have k8 : vp_in (nI k) 8 := vp_in_nI (by omega) (by decide)
    have k9 : vp_in (nI k) 9 := vp_in_nI (by omega) (by decide)
    have l8 : vp_in (nI l) 8 := vp_in_nI (by omega) (by decide)
    have l9 : vp_in (nI l) 9 := vp_in_nI (by omega) (by decide)
    have hn : ¬ nI w ≤ nI k := nI_ge hkw (by omega)
    have h0 : ¬ (32 : Int32) = 0 := by decide
    have ex : zqx k &&& 31 = nI (qn k % 32) := by rw [k1]; exact ms_slot (by omega)
    have ey : zqy k - zqy k / 32 * 32 = nI (qn k % 32) := by rw [q4 k (by omega), k1]; exact ms_rem (by omega)
    have hqs : iv_q l k w nx qn zqx zqy zst := ⟨q1, q2, q3, q4, q5, q6⟩
    by_cases z : nI now - zcm (qn k % 32) < zse 5
    · have hR' : md_R now nx dn B (l + 1) (k + 1) w (nI now, nI rc, nI w, zse, zto, ztu, zwe, zsl, zpa, zbr, zup, zti, zfa, zcr, zru, zsu, zfi, zrp, zrs, zca, zre, ztk, zho, zhs, zst, zcl, zpt, zky, zwo, zra, zcm, zen, zat, zan, ztr, zae, zal, upd zqx l (zqx k)) (nI now, nI rc, nI nx, nI w, zwe, zsl, zpa, zti, zfa, zcr, zsu, zsi, zwl, zbr, zup, zrp, zrs, zse, zca, zre, ztk, zho, zhs, zcl, zpt, zky, zwo, zra, zst, zat, zan, ztr, zcm, zen, zae, zal, upd zqy l (zqy k), zto, ztu, zso) := md_mk hset hcli hsrv hrt hfnd hreq hrun (iv_q_keep hqs hkw) htot
      obtain ⟨u2, v2, l2, hR2, X2, Y2⟩ := ih (k + 1) (by omega) (l + 1) dn _ _ hR'
      refine ⟨u2, v2, l2, hR2, fun P n hn' hp => ?_, fun P n hn' hp => ?_⟩
      · obtain ⟨m, rfl, hm⟩ := fu_m hn'
        refine br_f hn ⟨k8, ?_⟩
        rw [ek, el]
        refine nm_r ex ⟨hqi, ?_⟩
        rw [eq]
        exact br_t z ⟨k8, l8, nm_e (nm_r (nI_1 l) (nm_r (nI_1 k) (X2 P m (by omega) hp)))⟩
      · obtain ⟨m, rfl, hm⟩ := fu_m hn'
        refine br_f hn ⟨k9, h0, ?_⟩
        rw [ek, el]
        refine nm_r ey ⟨hqi, ?_⟩
        rw [eq]
        exact br_t z (nm_r (nI_1 l) ⟨k9, l9, nm_e (nm_r (nI_1 k) (Y2 P m (by omega) hp))⟩)
    · have hR' : md_R now nx dn B l (k + 1) w (nI now, nI rc, nI w, zse, vp_updL zto 4 (zto 4 + 1), ztu, zwe, zsl, zpa, zbr, zup, zti, zfa, zcr, zru, zsu, zfi, zrp, zrs, zca, zre, ztk, zho, zhs, upd zst (qn k % 32) 4, zcl, zpt, zky, zwo, zra, zcm, upd zen (qn k % 32) (nI now), zat, zan, ztr, zae, zal, zqx) (nI now, nI rc, nI nx, nI w, zwe, zsl, zpa, zti, zfa, zcr, zsu, zsi, zwl, zbr, zup, zrp, zrs, zse, zca, zre, ztk, zho, zhs, zcl, zpt, zky, zwo, zra, upd zst (qn k % 32) 4, zat, zan, ztr, zcm, upd zen (qn k % 32) (nI now), zae, zal, zqy, vp_updL zto 4 (zto 4 + 1), ztu, zso) :=
        md_mk hset hcli hsrv hrt hfnd (iv_req_st hreq (by decide)) (iv_run_same hrun hqn hq (by rw [k3]; decide) (by decide)) (iv_q_drop hqs hkw) (iv_tot_h htot (by decide) (by decide))
      obtain ⟨u2, v2, l2, hR2, X2, Y2⟩ := ih (k + 1) (by omega) l dn _ _ hR'
      refine ⟨u2, v2, l2, hR2, fun P n hn' hp => ?_, fun P n hn' hp => ?_⟩
      · obtain ⟨m, rfl, hm⟩ := fu_m hn'
        refine br_f hn ⟨k8, ?_⟩
        rw [ek]
        refine nm_r ex ⟨hqi, ?_⟩
        rw [eq]
        exact br_f z (fi_X now rc w zae zal zan zat zbr zca zcl zcm zcr zen zfa zfi zho zhs zky zpa zpt zqx zra zre zrp zrs zru zse zsl zst zsu zti ztk ztr ztu zup zwe zwo zto (h := 4) hq (by decide) _ (nm_r (nI_1 k) (X2 P m (by omega) hp)))
      · obtain ⟨m, rfl, hm⟩ := fu_m hn'
        refine br_f hn ⟨k9, h0, ?_⟩
        rw [ek]
        refine nm_r ey ⟨hqi, ?_⟩
        rw [eq]
        exact br_f z (fi_Y now rc w nx zae zal zan zat zbr zca zcl zcm zcr zen zfa zho zhs zky zpa zpt zqy zra zre zrp zrs zse zsi zsl zso zsu zst zti ztk ztr ztu zup zwe zwl zwo zto (h := 4) hq (by decide) _ (nm_r (nI_1 k) (Y2 P m (by omega) hp)))
theorem xs_loop {now nx B w : Nat} (hnx : nx < 2 ^ 30) : ∀ d k : Nat, k + d = w → ∀ (l : Nat) (dn : Nat) (u : SX) (v : SY), md_R now nx dn B l k w u v →
    ∃ u' v' l', md_R now nx dn B 0 0 l' u' v' ∧ (∀ (P : SX → Prop) (n : Nat), d < n → P u' → xx_S P n (nI l) (nI k) u) ∧ (∀ (P : SY → Prop) (n : Nat), d < n → P v' → yy_S P n (nI l) (nI k) v) := by
  intro d
  induction d with
  | zero =>
    intro k hk l dn u v hR
    have e : k = w := by omega
    subst e
    obtain ⟨rc, qn, zae, zal, zan, zat, zbr, zca, zcl, zcm, zcr, zen, zfa, zfi, zho, zhs, zky, zpa, zpt, zqx, zqy, zra, zre, zrp, zrs, zru, zse, zsi, zsl, zso, zst, zsu, zti, ztk, ztr, ztu, zup, zwe, zwl, zwo, zto, rfl, rfl, hset, hcli, hsrv, hrt, hfnd, hreq, hrun, hqs, htot⟩ := hR
    have le : nI k ≤ nI k := Int32.le_rfl
    have hR' : md_R now nx dn B 0 0 l (nI now, nI rc, nI l, zse, zto, ztu, zwe, zsl, zpa, zbr, zup, zti, zfa, zcr, zru, zsu, zfi, zrp, zrs, zca, zre, ztk, zho, zhs, zst, zcl, zpt, zky, zwo, zra, zcm, zen, zat, zan, ztr, zae, zal, zqx) (nI now, nI rc, nI nx, nI l, zwe, zsl, zpa, zti, zfa, zcr, zsu, zsi, zwl, zbr, zup, zrp, zrs, zse, zca, zre, ztk, zho, zhs, zcl, zpt, zky, zwo, zra, zst, zat, zan, ztr, zcm, zen, zae, zal, zqy, zto, ztu, zso) := md_mk hset hcli hsrv hrt hfnd hreq hrun (iv_q_end hqs) htot
    refine ⟨_, _, l, hR', fun P n hn hp => ?_, fun P n hn hp => ?_⟩
    · obtain ⟨m, rfl, hm⟩ := fu_m hn
      exact br_t le hp
    · obtain ⟨m, rfl, hm⟩ := fu_m hn
      exact br_t le hp
  | succ d ih =>
    intro k hk l dn u v hR
    obtain ⟨rc, qn, zae, zal, zan, zat, zbr, zca, zcl, zcm, zcr, zen, zfa, zfi, zho, zhs, zky, zpa, zpt, zqx, zqy, zra, zre, zrp, zrs, zru, zse, zsi, zsl, zso, zst, zsu, zti, ztk, ztr, ztu, zup, zwe, zwl, zwo, zto, rfl, rfl, hset, hcli, hsrv, hrt, hfnd, hreq, hrun, hqs, htot⟩ := hR
    obtain ⟨q1, q2, q3, q4, q5, q6⟩ := hqs
    have hkw : k < w := by omega
    obtain ⟨k1, k2, k3⟩ := q5 k (Or.inr ⟨Nat.le_refl _, hkw⟩)
    have hq : qn k % 32 < 32 := Nat.mod_lt _ (by decide)
    have hqn : qn k % 32 < nx := Nat.lt_of_le_of_lt (Nat.mod_le _ _) k2
    have ek : (nI k).toNatClampNeg = k := nI_clamp (by omega)
    have el : (nI l).toNatClampNeg = l := nI_clamp (by omega)
    have k8 : vp_in (nI k) 8 := vp_in_nI (by omega) (by decide)
    have k9 : vp_in (nI k) 9 := vp_in_nI (by omega) (by decide)
    have l8 : vp_in (nI l) 8 := vp_in_nI (by omega) (by decide)
    have l9 : vp_in (nI l) 9 := vp_in_nI (by omega) (by decide)
    have hn : ¬ nI w ≤ nI k := nI_ge hkw (by omega)
    have h0 : ¬ (32 : Int32) = 0 := by decide
    have ex : zqx (nI k).toNatClampNeg &&& 31 = nI (qn k % 32) := by rw [ek, k1]; exact ms_slot (by omega)
    have ey : zqy (nI k).toNatClampNeg - zqy (nI k).toNatClampNeg / 32 * 32 = nI (qn k % 32) := by rw [ek, q4 k (by omega), k1]; exact ms_rem (by omega)
    have hqs : iv_q l k w nx qn zqx zqy zst := ⟨q1, q2, q3, q4, q5, q6⟩
    obtain ⟨hcl, hky, hpt, hat⟩ := hreq (qn k % 32) hq
    have eux : upd zqx (nI l).toNatClampNeg (zqx (nI k).toNatClampNeg) = upd zqx l (zqx k) := by rw [el, ek]
    have euy : upd zqy (nI l).toNatClampNeg (zqy (nI k).toNatClampNeg) = upd zqy l (zqy k) := by rw [el, ek]
    rcases am_pair now rc w nx zae zal zan zat zbr zca zcl zcm zcr zen zfa zfi zho zhs zky zpa zpt zqx zqy zra zre zrp zrs zru zse zsi zsl zso zst zsu zst zti ztk ztr ztu zup zwe zwl zwo zto hset hcli hsrv hrt (by omega) hrun.1 hrun.2 hq hcl hky hpt with ⟨aX, aY⟩ | ⟨s', cr', al', ae', an', tr', hs', aX, aY⟩
    · have hR' : md_R now nx dn B (l + 1) (k + 1) w (nI now, nI rc, nI w, zse, zto, ztu, zwe, zsl, zpa, zbr, zup, zti, zfa, zcr, zru, zsu, zfi, zrp, zrs, zca, zre, ztk, zho, zhs, zst, zcl, zpt, zky, zwo, zra, zcm, zen, zat, zan, ztr, zae, zal, upd zqx l (zqx k)) (nI now, nI rc, nI nx, nI w, zwe, zsl, zpa, zti, zfa, zcr, zsu, zsi, zwl, zbr, zup, zrp, zrs, zse, zca, zre, ztk, zho, zhs, zcl, zpt, zky, zwo, zra, zst, zat, zan, ztr, zcm, zen, zae, zal, upd zqy l (zqy k), zto, ztu, zso) := md_mk hset hcli hsrv hrt hfnd hreq hrun (iv_q_keep hqs hkw) htot
      obtain ⟨u2, v2, l2, hR2, X2, Y2⟩ := ih (k + 1) (by omega) (l + 1) dn _ _ hR'
      refine ⟨u2, v2, l2, hR2, fun P n hn' hp => ?_, fun P n hn' hp => ?_⟩
      · obtain ⟨m, rfl, hm⟩ := fu_m hn'
        exact br_f hn ⟨k8, nm_r ex (aX _ (br_t rfl ⟨k8, l8, nm_r eux (nm_r (nI_1 l) (nm_r (nI_1 k) (X2 P m (by omega) hp)))⟩))⟩
      · obtain ⟨m, rfl, hm⟩ := fu_m hn'
        refine br_f hn ⟨k9, h0, ?_⟩
        rw [ey]
        exact aY _ (br_t rfl (nm_r (nI_1 l) ⟨k9, l9, nm_r euy (nm_r (nI_1 k) (Y2 P m (by omega) hp))⟩))
    · have hR' : md_R now nx dn B l (k + 1) w (nI now, nI rc, nI w, zse, zto, ztu, zwe, zsl, zpa, zbr, zup, zti, zfa, cr', upd zru s' (zru s' + 1), zsu, zfi, zrp, zrs, zca, zre, ztk, zho, zhs, upd zst (qn k % 32) 1, zcl, zpt, zky, zwo, zra, zcm, zen, upd zat (qn k % 32) (nI s'), an', tr', ae', al', zqx) (nI now, nI rc, nI nx, nI w, zwe, zsl, zpa, zti, zfa, cr', zsu, zsi, zwl, zbr, zup, zrp, zrs, zse, zca, zre, ztk, zho, zhs, zcl, zpt, zky, zwo, zra, upd zst (qn k % 32) 1, upd zat (qn k % 32) (nI s'), an', tr', zcm, zen, ae', al', zqy, zto, ztu, zso) :=
        md_mk hset hcli hsrv hrt hfnd (iv_req_start hreq hs') (iv_run_start hrun hqn hq hs' (by rw [k3]; decide)) (iv_q_drop hqs hkw) htot
      obtain ⟨u2, v2, l2, hR2, X2, Y2⟩ := ih (k + 1) (by omega) l dn _ _ hR'
      refine ⟨u2, v2, l2, hR2, fun P n hn' hp => ?_, fun P n hn' hp => ?_⟩
      · obtain ⟨m, rfl, hm⟩ := fu_m hn'
        exact br_f hn ⟨k8, nm_r ex (aX _ (br_f rd_1n0 (nm_r (nI_1 k) (X2 P m (by omega) hp))))⟩
      · obtain ⟨m, rfl, hm⟩ := fu_m hn'
        refine br_f hn ⟨k9, h0, ?_⟩
        rw [ey]
        exact aY _ (br_f rd_1n0 (nm_r (nI_1 k) (Y2 P m (by omega) hp)))
end
section
/-! a unit, and advance -/
def xx_C (P : SX → Prop) (u : SX) : Prop := match u with
  | (g_now, g_routeCount, g_queueLength, g_settings, g_totals, g_tookUnits, g_weightOf, g_slotsOf, g_paceOf, g_isBroken, g_isUp, g_shutTill, g_failures, g_credit, g_running, g_succeeded, g_findings, g_routePath, g_routeServers, g_capacityOf, g_refillOf, g_tokenCount, g_homeServer, g_homeSince, g_stateOf, g_clientOf, g_pathOf, g_keyOf, g_workOf, g_rankOf, g_cameAt, g_endedAt, g_serverOf, g_attempts, g_triedServers, g_attemptEnd, g_attemptTooLong, g_queue) => ¬ g_settings 4 = 0 ∧ ((((g_now - g_now / (g_settings 4) * (g_settings 4)) = 0 → (wpX_checkServers P (g_now, g_routeCount, g_queueLength, g_settings, g_totals, g_tookUnits, g_weightOf, g_slotsOf, g_paceOf, g_isBroken, g_isUp, g_shutTill, g_failures, g_credit, g_running, g_succeeded, g_findings, g_routePath, g_routeServers, g_capacityOf, g_refillOf, g_tokenCount, g_homeServer, g_homeSince, g_stateOf, g_clientOf, g_pathOf, g_keyOf, g_workOf, g_rankOf, g_cameAt, g_endedAt, g_serverOf, g_attempts, g_triedServers, g_attemptEnd, g_attemptTooLong, g_queue))) ∧ (¬ (g_now - g_now / (g_settings 4) * (g_settings 4)) = 0 → (P (g_now, g_routeCount, g_queueLength, g_settings, g_totals, g_tookUnits, g_weightOf, g_slotsOf, g_paceOf, g_isBroken, g_isUp, g_shutTill, g_failures, g_credit, g_running, g_succeeded, g_findings, g_routePath, g_routeServers, g_capacityOf, g_refillOf, g_tokenCount, g_homeServer, g_homeSince, g_stateOf, g_clientOf, g_pathOf, g_keyOf, g_workOf, g_rankOf, g_cameAt, g_endedAt, g_serverOf, g_attempts, g_triedServers, g_attemptEnd, g_attemptTooLong, g_queue)))))
theorem cc_pair {now nx dn B w : Nat} {u : SX} {v : SY} (hB : B < 2 ^ 30) (hR : md_R now nx dn B 0 0 w u v) :
    ∃ u' v', md_R now nx dn (B + 1) 0 0 w u' v' ∧ (∀ P : SX → Prop, P u' → xx_C P u) ∧ (∀ P : SY → Prop, (∃ n168 : Nat, yy_W P n168 0 0 v') → ∃ n133 : Nat, yy_C P n133 0 v) := by
  obtain ⟨rc, qn, zae, zal, zan, zat, zbr, zca, zcl, zcm, zcr, zen, zfa, zfi, zho, zhs, zky, zpa, zpt, zqx, zqy, zra, zre, zrp, zrs, zru, zse, zsi, zsl, zso, zst, zsu, zti, ztk, ztr, ztu, zup, zwe, zwl, zwo, zto, rfl, rfl, hset, hcli, hsrv, hrt, hfnd, hreq, hrun, hqs, htot⟩ := hR
  have l66 : (6 : Int32) ≤ nI 6 := by decide
  by_cases z : nI now - nI now / zse 4 * zse 4 = 0
  · obtain ⟨fi', si', wl', up', hf, X1, Y1⟩ := cs_loop now rc w nx zae zal zan zat zbr zca zcl zcm zcr zen zfa zho zhs zky zpa zpt zqx zqy zra zre zrp zrs zru zse zsl zso zst zsu zst zti ztk ztr ztu zwe zwo zto hB hset.1 z 6 0 rfl zfi zsi zwl zup (iv_fnd_le hfnd (by omega)) (fun j _ hj => hfnd j hj)
    have hR' : md_R now nx dn (B + 1) 0 0 w (nI now, nI rc, nI w, zse, zto, ztu, zwe, zsl, zpa, zbr, up', zti, zfa, zcr, zru, zsu, fi', zrp, zrs, zca, zre, ztk, zho, zhs, zst, zcl, zpt, zky, zwo, zra, zcm, zen, zat, zan, ztr, zae, zal, zqx) (nI now, nI rc, nI nx, nI w, zwe, zsl, zpa, zti, zfa, zcr, zsu, si', wl', zbr, up', zrp, zrs, zse, zca, zre, ztk, zho, zhs, zcl, zpt, zky, zwo, zra, zst, zat, zan, ztr, zcm, zen, zae, zal, zqy, zto, ztu, zso) := md_mk hset hcli hsrv hrt hf hreq hrun hqs htot
    exact ⟨_, _, hR', fun P hp => ⟨hset.1, br_t z ⟨7, X1 P 7 (by omega) hp⟩⟩, fun P hp => ⟨7, Y1 P 7 (by omega) (br_t l66 hp)⟩⟩
  · have hR' : md_R now nx dn (B + 1) 0 0 w (nI now, nI rc, nI w, zse, zto, ztu, zwe, zsl, zpa, zbr, zup, zti, zfa, zcr, zru, zsu, zfi, zrp, zrs, zca, zre, ztk, zho, zhs, zst, zcl, zpt, zky, zwo, zra, zcm, zen, zat, zan, ztr, zae, zal, zqx) (nI now, nI rc, nI nx, nI w, zwe, zsl, zpa, zti, zfa, zcr, zsu, zsi, zwl, zbr, zup, zrp, zrs, zse, zca, zre, ztk, zho, zhs, zcl, zpt, zky, zwo, zra, zst, zat, zan, ztr, zcm, zen, zae, zal, zqy, zto, ztu, zso) := md_mk hset hcli hsrv hrt (iv_fnd_le hfnd (by omega)) hreq hrun hqs htot
    exact ⟨_, _, hR', fun P hp => ⟨hset.1, br_f z hp⟩, fun P hp => ⟨1, br_f (show ¬ (6 : Int32) ≤ 0 by decide) ⟨hset.1, br_f z hp⟩⟩⟩
theorem eq_pair {now nx dn B w : Nat} {u : SX} {v : SY} (hnx : nx < 2 ^ 30) (hR : md_R now nx dn B 0 0 w u v) :
    ∃ u' v' w', md_R now nx dn B 0 0 w' u' v' ∧ (∀ P : SX → Prop, P u' → wpX_expireQueued P u) ∧ (∀ P : SY → Prop, (∃ n245 : Nat, yy_S P n245 0 0 v') → ∃ n168 : Nat, yy_W P n168 0 0 v) := by
  obtain ⟨u', v', w', hR', X1, Y1⟩ := xw_loop (dn := dn) hnx w 0 (by omega) 0 dn u v hR
  obtain ⟨g_now, g_routeCount, g_queueLength, g_settings, g_totals, g_tookUnits, g_weightOf, g_slotsOf, g_paceOf, g_isBroken, g_isUp, g_shutTill, g_failures, g_credit, g_running, g_succeeded, g_findings, g_routePath, g_routeServers, g_capacityOf, g_refillOf, g_tokenCount, g_homeServer, g_homeSince, g_stateOf, g_clientOf, g_pathOf, g_keyOf, g_workOf, g_rankOf, g_cameAt, g_endedAt, g_serverOf, g_attempts, g_triedServers, g_attemptEnd, g_attemptTooLong, g_queue⟩ := u
  exact ⟨u', v', w', hR', fun P hp => ⟨w + 1, X1 P (w + 1) (by omega) hp⟩, fun P hp => ⟨w + 1, Y1 P (w + 1) (by omega) hp⟩⟩
theorem sq_pair {now nx dn B w : Nat} {u : SX} {v : SY} (hnx : nx < 2 ^ 30) (hR : md_R now nx dn B 0 0 w u v) :
    ∃ u' v' w', md_R now nx dn B 0 0 w' u' v' ∧ (∀ P : SX → Prop, P u' → wpX_startQueued P u) ∧ (∀ P : SY → Prop, P v' → ∃ n245 : Nat, yy_S P n245 0 0 v) := by
  obtain ⟨u', v', w', hR', X1, Y1⟩ := xs_loop hnx w 0 (by omega) 0 dn u v hR
  obtain ⟨g_now, g_routeCount, g_queueLength, g_settings, g_totals, g_tookUnits, g_weightOf, g_slotsOf, g_paceOf, g_isBroken, g_isUp, g_shutTill, g_failures, g_credit, g_running, g_succeeded, g_findings, g_routePath, g_routeServers, g_capacityOf, g_refillOf, g_tokenCount, g_homeServer, g_homeSince, g_stateOf, g_clientOf, g_pathOf, g_keyOf, g_workOf, g_rankOf, g_cameAt, g_endedAt, g_serverOf, g_attempts, g_triedServers, g_attemptEnd, g_attemptTooLong, g_queue⟩ := u
  exact ⟨u', v', w', hR', fun P hp => ⟨w + 1, X1 P (w + 1) (by omega) hp⟩, fun P hp => ⟨w + 1, Y1 P (w + 1) (by omega) hp⟩⟩
theorem md_nxt {now nx dn B w : Nat} {u : SX} {v : SY} (hR : md_R now nx dn B 0 0 w u v) (P : SY → Prop) (h : ∃ n133 : Nat, yy_C P n133 0 v) : yy_E P 1 (nI nx) v := by
  obtain ⟨rc, qn, zae, zal, zan, zat, zbr, zca, zcl, zcm, zcr, zen, zfa, zfi, zho, zhs, zky, zpa, zpt, zqx, zqy, zra, zre, zrp, zrs, zru, zse, zsi, zsl, zso, zst, zsu, zti, ztk, ztr, ztu, zup, zwe, zwl, zwo, zto, rfl, rfl, _⟩ := hR
  exact br_t (show nI nx ≤ nI nx from Int32.le_rfl) h
theorem ad_loop {nx N : Nat} (x2 : Int64) (hnx : nx < 2 ^ 30) (hN : N < 2 ^ 30) : ∀ d i : Nat, i + d = N → ∀ (now dn w : Nat) (u : SX) (v : SY), now + d < 2 ^ 29 → dn + 32 * d < 2 ^ 30 → md_R now nx dn now 0 0 w u v →
    ∃ u' v' dn' w', dn' ≤ dn + 32 * d ∧ md_R (now + d) nx dn' (now + d) 0 0 w' u' v' ∧ (∀ (P : Int32 → SX → Prop) (n : Nat), d < n → xx_A P (nI N) x2 1 (nI N) u' → xx_A P (nI N) x2 n (nI i) u) ∧ (∀ (P : Int32 → SY → Prop) (n : Nat), d < n → yy_A P (nI N) x2 1 (nI N) v' → yy_A P (nI N) x2 n (nI i) v) := by
  intro d
  induction d with
  | zero =>
    intro i hi now dn w u v hnow hdn hR
    have e : i = N := by omega
    subst e
    have le : nI i ≤ nI i := Int32.le_rfl
    refine ⟨u, v, dn, w, by omega, hR, fun P n hn hp => ?_, fun P n hn hp => ?_⟩
    · obtain ⟨m, rfl, hm⟩ := fu_m hn
      obtain ⟨g_now, g_routeCount, g_queueLength, g_settings, g_totals, g_tookUnits, g_weightOf, g_slotsOf, g_paceOf, g_isBroken, g_isUp, g_shutTill, g_failures, g_credit, g_running, g_succeeded, g_findings, g_routePath, g_routeServers, g_capacityOf, g_refillOf, g_tokenCount, g_homeServer, g_homeSince, g_stateOf, g_clientOf, g_pathOf, g_keyOf, g_workOf, g_rankOf, g_cameAt, g_endedAt, g_serverOf, g_attempts, g_triedServers, g_attemptEnd, g_attemptTooLong, g_queue⟩ := u
      exact br_t le (ex_t le hp)
    · obtain ⟨m, rfl, hm⟩ := fu_m hn
      obtain ⟨g_time, g_routes, g_next, g_waiting, g_weight, g_slots, g_pace, g_till, g_failures, g_credit, g_successes, g_sick, g_well, g_broken, g_up, g_routePath, g_routeServers, g_setting, g_capacity, g_refill, g_tokens, g_home, g_homeTime, g_client, g_path, g_key, g_work, g_rank, g_state, g_at, g_attempts, g_tried, g_came, g_ended, g_ends, g_late, g_queue, g_total, g_took, g_sorted⟩ := v
      exact br_t le (ex_t le hp)
  | succ d ih =>
    intro i hi now dn w u v hnow hdn hR
    obtain ⟨rc, qn, zae, zal, zan, zat, zbr, zca, zcl, zcm, zcr, zen, zfa, zfi, zho, zhs, zky, zpa, zpt, zqx, zqy, zra, zre, zrp, zrs, zru, zse, zsi, zsl, zso, zst, zsu, zti, ztk, ztr, ztu, zup, zwe, zwl, zwo, zto, rfl, rfl, hset, hcli, hsrv, hrt, hfnd, hreq, hrun, hqs, htot⟩ := hR
    have l66 : (6 : Int32) ≤ nI 6 := by decide
    have hle : ¬ nI N ≤ nI i := nI_ge (by omega) (by omega)
    obtain ⟨tk', tX, tY⟩ := tb_loop (now + 1) rc w nx zae zal zan zat zbr zca zcl zcm zcr zen zfa zfi zho zhs zky zpa zpt zqx zqy zra zre zrp zrs zru zse zsi zsl zso zst zsu zst zti ztr ztu zup zwe zwl zwo zto (fun c hc => (hcli c hc).1) 6 0 rfl ztk
    have hR1 : md_R (now + 1) nx dn now 0 0 w (nI (now + 1), nI rc, nI w, zse, zto, ztu, zwe, zsl, zpa, zbr, zup, zti, zfa, zcr, zru, zsu, zfi, zrp, zrs, zca, zre, tk', zho, zhs, zst, zcl, zpt, zky, zwo, zra, zcm, zen, zat, zan, ztr, zae, zal, zqx) (nI (now + 1), nI rc, nI nx, nI w, zwe, zsl, zpa, zti, zfa, zcr, zsu, zsi, zwl, zbr, zup, zrp, zrs, zse, zca, zre, tk', zho, zhs, zcl, zpt, zky, zwo, zra, zst, zat, zan, ztr, zcm, zen, zae, zal, zqy, zto, ztu, zso) := md_mk hset hcli hsrv hrt hfnd hreq hrun hqs htot
    obtain ⟨u2, v2, dn2, hd2, hR2, eX, eY⟩ := ea_pair (by omega) hnx (by omega) hR1
    have nY := md_nxt hR2
    obtain ⟨u3, v3, hR3, cX, cY⟩ := cc_pair (by omega) hR2
    obtain ⟨u4, v4, w4, hR4, qX, qY⟩ := eq_pair hnx hR3
    obtain ⟨u5, v5, w5, hR5, sX, sY⟩ := sq_pair hnx hR4
    obtain ⟨u6, v6, dn6, w6, hd6, hR6, X6, Y6⟩ := ih (i + 1) (by omega) (now + 1) dn2 w5 u5 v5 (by omega) (by omega) hR5
    rw [show now + 1 + d = now + (d + 1) from by omega] at hR6
    refine ⟨u6, v6, dn6, w6, by omega, hR6, fun P n hn hp => ?_, fun P n hn hp => ?_⟩
    · obtain ⟨m, rfl, hm⟩ := fu_m hn
      have k := X6 P m (by omega) hp
      clear hR1 hR2 hR3 hR4 hR5 hR6 X6 Y6 hp nY eY cY qY sY tY
      obtain ⟨g_now, g_routeCount, g_queueLength, g_settings, g_totals, g_tookUnits, g_weightOf, g_slotsOf, g_paceOf, g_isBroken, g_isUp, g_shutTill, g_failures, g_credit, g_running, g_succeeded, g_findings, g_routePath, g_routeServers, g_capacityOf, g_refillOf, g_tokenCount, g_homeServer, g_homeSince, g_stateOf, g_clientOf, g_pathOf, g_keyOf, g_workOf, g_rankOf, g_cameAt, g_endedAt, g_serverOf, g_attempts, g_triedServers, g_attemptEnd, g_attemptTooLong, g_queue⟩ := u2
      obtain ⟨g_now, g_routeCount, g_queueLength, g_settings, g_totals, g_tookUnits, g_weightOf, g_slotsOf, g_paceOf, g_isBroken, g_isUp, g_shutTill, g_failures, g_credit, g_running, g_succeeded, g_findings, g_routePath, g_routeServers, g_capacityOf, g_refillOf, g_tokenCount, g_homeServer, g_homeSince, g_stateOf, g_clientOf, g_pathOf, g_keyOf, g_workOf, g_rankOf, g_cameAt, g_endedAt, g_serverOf, g_attempts, g_triedServers, g_attemptEnd, g_attemptTooLong, g_queue⟩ := u3
      obtain ⟨g_now, g_routeCount, g_queueLength, g_settings, g_totals, g_tookUnits, g_weightOf, g_slotsOf, g_paceOf, g_isBroken, g_isUp, g_shutTill, g_failures, g_credit, g_running, g_succeeded, g_findings, g_routePath, g_routeServers, g_capacityOf, g_refillOf, g_tokenCount, g_homeServer, g_homeSince, g_stateOf, g_clientOf, g_pathOf, g_keyOf, g_workOf, g_rankOf, g_cameAt, g_endedAt, g_serverOf, g_attempts, g_triedServers, g_attemptEnd, g_attemptTooLong, g_queue⟩ := u4
      obtain ⟨g_now, g_routeCount, g_queueLength, g_settings, g_totals, g_tookUnits, g_weightOf, g_slotsOf, g_paceOf, g_isBroken, g_isUp, g_shutTill, g_failures, g_credit, g_running, g_succeeded, g_findings, g_routePath, g_routeServers, g_capacityOf, g_refillOf, g_tokenCount, g_homeServer, g_homeSince, g_stateOf, g_clientOf, g_pathOf, g_keyOf, g_workOf, g_rankOf, g_cameAt, g_endedAt, g_serverOf, g_attempts, g_triedServers, g_attemptEnd, g_attemptTooLong, g_queue⟩ := u5
      exact br_f hle (nm_r (nI_1 now) ⟨7, tX _ 7 (by omega) (eX _ (cX _ (qX _ (sX _ (nm_r (nI_1 i) k)))))⟩)
    · obtain ⟨m, rfl, hm⟩ := fu_m hn
      have k := Y6 P m (by omega) hp
      clear hR1 hR2 hR3 hR4 hR5 hR6 X6 Y6 hp eX cX qX sX tX
      obtain ⟨g_time, g_routes, g_next, g_waiting, g_weight, g_slots, g_pace, g_till, g_failures, g_credit, g_successes, g_sick, g_well, g_broken, g_up, g_routePath, g_routeServers, g_setting, g_capacity, g_refill, g_tokens, g_home, g_homeTime, g_client, g_path, g_key, g_work, g_rank, g_state, g_at, g_attempts, g_tried, g_came, g_ended, g_ends, g_late, g_queue, g_total, g_took, g_sorted⟩ := v5
      exact br_f hle (nm_r (nI_1 now) ⟨7, tY _ 7 (by omega) (br_t l66 (eY _ (nY _ (cY _ (qY _ (sY _ (nm_r (nI_1 i) k)))))))⟩)
theorem av_lt {v : Int32} (h : nI 5001 ≤ v) : 5000 < v := by
  rw [Int32.le_iff_toInt_le, show (nI 5001).toInt = 5001 from by decide] at h
  rw [Int32.lt_iff_toInt_lt, show (5000 : Int32).toInt = 5000 from by decide]
  omega
theorem pu_advance {k : Nat} {u : SX} {v : SY} (I : i_Rel k u v) (hk : k + 6 ≤ 3072) (v1 : Int32) : ∃ r u' v', i_Rel (k + 6) u' v' ∧ (∀ P : Int32 → SX → Prop, P r u' → wpX_advance P u v1) ∧ (∀ P : Int32 → SY → Prop, P r v' → wpY_advance P v v1) := by
  have I' := i_up I
  obtain ⟨now, nx, dn, w, h1, h2, h3, hR⟩ := I
  rcases pk_ix v1 (n := 5001) (by decide) with h | h | ⟨N, hN, rfl⟩
  · obtain ⟨rc, qn, zae, zal, zan, zat, zbr, zca, zcl, zcm, zcr, zen, zfa, zfi, zho, zhs, zky, zpa, zpt, zqx, zqy, zra, zre, zrp, zrs, zru, zse, zsi, zsl, zso, zst, zsu, zti, ztk, ztr, ztu, zup, zwe, zwl, zwo, zto, rfl, rfl, _⟩ := hR
    refine ⟨_, _, _, I', fun P hP => br_t h hP, fun P hP => ?_⟩
    unfold wpY_advance
    exact rd_y0 (Or.inl h) (br_t rfl hP)
  · have h' := av_lt h
    have h0 : ¬ v1 < 0 := fun z => Int32.lt_irrefl (Int32.lt_trans (Int32.lt_trans z (by decide : (0 : Int32) < 5000)) h')
    obtain ⟨rc, qn, zae, zal, zan, zat, zbr, zca, zcl, zcm, zcr, zen, zfa, zfi, zho, zhs, zky, zpa, zpt, zqx, zqy, zra, zre, zrp, zrs, zru, zse, zsi, zsl, zso, zst, zsu, zti, ztk, ztr, ztu, zup, zwe, zwl, zwo, zto, rfl, rfl, _⟩ := hR
    refine ⟨_, _, _, I', fun P hP => br_f h0 (br_t h' hP), fun P hP => ?_⟩
    unfold wpY_advance
    exact rd_y0 (Or.inr h') (br_t rfl hP)
  · have hR0 := hR
    obtain ⟨rc, qn, zae, zal, zan, zat, zbr, zca, zcl, zcm, zcr, zen, zfa, zfi, zho, zhs, zky, zpa, zpt, zqx, zqy, zra, zre, zrp, zrs, zru, zse, zsi, zsl, zso, zst, zsu, zti, ztk, ztr, ztu, zup, zwe, zwl, zwo, zto, rfl, rfl, _⟩ := hR
    obtain ⟨u', v', dn', w', hd, hR', X, Y⟩ := ad_loop (nx := nx) (N := N) ((zto 2 + zto 3) + zto 4) (by omega) (by omega) N 0 (by omega) now dn w _ _ (by omega) (by omega) hR0
    have hI : i_Rel (k + 6) u' v' := ⟨now + N, nx, dn', w', by omega, by omega, by omega, hR'⟩
    obtain ⟨rc', qn', zae, zal, zan, zat, zbr, zca, zcl, zcm, zcr, zen, zfa, zfi, zho, zhs, zky, zpa, zpt, zqx, zqy, zra, zre, zrp, zrs, zru, zse, zsi, zsl, zso, zst, zsu, zti, ztk, ztr, ztu, zup, zwe, zwl, zwo, zto, rfl, rfl, _⟩ := hR'
    have e1 : (1000000000 : Int32) - nI now = nI (1000000000 - now) := pk_sub (a := 1000000000) (by omega)
    have c1 : nI N ≤ 1000000000 - nI now := by rw [e1]; exact nI_le (by omega) (by omega)
    have c2 : nI now + nI N ≤ 1000000000 := by rw [nI_add]; exact nI_le (b := 1000000000) (by omega) (by decide)
    have le : nI N ≤ nI N := Int32.le_rfl
    refine ⟨_, _, _, hI, fun P hP => br_f (nI_pos (by omega)) (br_f (nI_nlt (b := N) (a := 5000) (by omega) (by decide)) (br_t c1 (nm_e ⟨N + 1, X P (N + 1) (by omega) (br_t le hP)⟩))), fun P hP => ?_⟩
    unfold wpY_advance
    exact rd_yn (a := 0) (b := 5000) (by omega) (by omega) (by decide) (br_f rd_1n0 (br_t c2 (nm_e ⟨N + 1, Y P (N + 1) (by omega) (br_t le hP)⟩)))
theorem i_vc_advance {k : Nat} {u : SX} {v : SY} (I : i_Rel k u v) (hk : k + 6 ≤ 3072) (v1 : Int32) : wpX_advance (fun r u' => wpY_advance (fun r' v' => r' = r ∧ i_Rel (k + 6) u' v') v v1) u v1 := by
  obtain ⟨r, u', v', hI, hX, hY⟩ := pu_advance I hk v1
  exact hX _ (hY _ ⟨rfl, hI⟩)
end
section
/-! a request enters the queue -/
section
variable (now rc ql nx : Nat) (zae zal zan zat zbr zca zcl zcm zcr zen zfa zfi zho zhs zky zpa zpt zqx zqy zra zre zrp zrs zru zse zsi zsl zso zst zsu zsy zti ztk ztr ztu zup zwe zwl zwo : Nat → Int32) (zto : Nat → Int64)
theorem iq_loop {q : Nat} {x1 : Int32} {qn : Nat → Nat} (qlx : Nat) (enx : Nat → Int32) (tox : Nat → Int64) (hq : q < 32) : ∀ k : Nat, k ≤ 7 → ∀ qx qy : Nat → Int32, (∀ j, j < 8 → qy j = qx j) → (∀ j, j < k → qx j = nI (qn j) ∧ qn j < 2 ^ 30) →
    ∃ (p : Nat) (qx' qy' : Nat → Int32), p ≤ k ∧ (∀ j, j < 8 → qy' j = qx' j) ∧ qy' 8 = qy 8 ∧ (∀ j, j < p → qx' j = qx j) ∧ (∀ j, p < j → j ≤ k → qx' j = qx (j - 1)) ∧ (∀ j, k < j → qx' j = qx j) ∧
    (∀ (P : SX → Prop) (n : Nat), k < n → wX_enqueue_129 P x1 (nI p) (nI now) (nI rc) (nI qlx) zse tox ztu zwe zsl zpa zbr zup zti zfa zcr zru zsu zfi zrp zrs zca zre ztk zho zhs zst zcl zpt zky zwo zra zcm enx zat zan ztr zae zal qx' → wX_enqueue_72 P x1 (nI q) (nI now) (nI rc) (nI qlx) n (nI k) (nI k + (-1)) zse tox ztu zwe zsl zpa zbr zup zti zfa zcr zru zsu zfi zrp zrs zca zre ztk zho zhs zst zcl zpt zky zwo zra zcm enx zat zan ztr zae zal qx) ∧
    (∀ (P : SY → Prop) (n : Nat), k < n → wY_place_65 P (nI p) (nI now) (nI rc) (nI nx) (nI ql) zwe zsl zpa zti zfa zcr zsu zsi zwl zbr zup zrp zrs zse zca zre ztk zho zhs zcl zpt zky zwo zra zsy zat zan ztr zcm zen zae zal qy' zto ztu zso → wY_place_16 P (nI q) (nI now) (nI rc) (nI nx) (nI ql) n (nI k) zwe zsl zpa zti zfa zcr zsu zsi zwl zbr zup zrp zrs zse zca zre ztk zho zhs zcl zpt zky zwo zra zsy zat zan ztr zcm zen zae zal qy zto ztu zso) := by
  have hqi : vp_in (nI q) 32 := vp_in_nI hq (by decide)
  have eq : (nI q).toNatClampNeg = q := nI_clamp (by omega)
  intro k
  induction k with
  | zero =>
    intro _ qx qy hag hqn
    exact ⟨0, qx, qy, Nat.le_refl _, hag, rfl, fun j hj => rfl, fun j h1 h2 => by omega, fun j _ => rfl, fun P n hn hp => (by obtain ⟨m, rfl, hm_⟩ := fu_m hn; exact br_t (show nI 0 + (-1) < 0 by decide) hp), fun P n hn hp => (by obtain ⟨m, rfl, hm_⟩ := fu_m hn; exact br_t (show nI 0 ≤ 0 by decide) hp)⟩
  | succ k ih =>
    intro hk qx qy hag hqn
    obtain ⟨k1, k2⟩ := hqn k (by omega)
    have ek : (nI k).toNatClampNeg = k := nI_clamp (by omega)
    have k8 : vp_in (nI k) 8 := vp_in_nI (by omega) (by decide)
    have k9 : vp_in (nI k) 9 := vp_in_nI (by omega) (by decide)
    have hsi : vp_in (nI (qn k % 32)) 32 := vp_in_nI (Nat.mod_lt _ (by decide)) (by decide)
    have es : (nI (qn k % 32)).toNatClampNeg = qn k % 32 := nI_clamp (by omega)
    have ex : qx k &&& 31 = nI (qn k % 32) := by rw [k1]; exact ms_slot (by omega)
    have ey : qy k - qy k / 32 * 32 = nI (qn k % 32) := by rw [hag k (by omega), k1]; exact ms_rem (by omega)
    have h0 : ¬ (32 : Int32) = 0 := by decide
    have hpos : ¬ nI (k + 1) ≤ 0 := nI_nle (by omega) (by omega)
    by_cases z : zra (qn k % 32) < zra q
    · obtain ⟨p, qx', qy', hp, a1, a8, a2, a3, a4, X1, Y1⟩ := ih (by omega) (upd qx (k + 1) (qx k)) (upd qy (k + 1) (qy k))
        (fun j hj => by
          by_cases e : j = k + 1
          · rw [e, pk_us, pk_us]; exact hag k (by omega)
          · rw [pk_un e, pk_un e]; exact hag j hj)
        (fun j hj => by rw [pk_un (by omega)]; exact hqn j (by omega))
      refine ⟨p, qx', qy', by omega, a1, by rw [a8, pk_un (by omega)], fun j hj => by rw [a2 j hj, pk_un (by omega)], fun j h1 h2 => ?_, fun j hj => by rw [a4 j (by omega), pk_un (by omega)], fun P n hn hp => ?_, fun P n hn hp => ?_⟩
      · by_cases e : j = k + 1
        · rw [e, a4 (k + 1) (by omega), pk_us]; rfl
        · rw [a3 j h1 (by omega), pk_un (by omega)]
      · obtain ⟨m, rfl, hm⟩ := fu_m hn
        rw [pk_m1]
        refine br_f (nI_pos (by omega)) ⟨k8, ?_⟩
        rw [ek, ex, es, eq, nI_1, nI_clamp (n := k + 1) (by omega)]
        exact ⟨hsi, hqi, br_t z ⟨k8, vp_in_nI (by omega) (by decide), nm_e (nm_e (X1 P m (by omega) hp))⟩⟩
      · obtain ⟨m, rfl, hm⟩ := fu_m hn
        refine br_f hpos ?_
        rw [nI_pred, ek, ey, es, eq, nI_clamp (n := k + 1) (by omega)]
        exact ⟨k9, h0, hsi, hqi, br_f (Int32.not_le.mpr z) ⟨k9, vp_in_nI (by omega) (by decide), nm_e (nm_r (pk_m1 k) (Y1 P m (by omega) hp))⟩⟩
    · refine ⟨k + 1, qx, qy, Nat.le_refl _, hag, rfl, fun j hj => rfl, fun j h1 h2 => by omega, fun j _ => rfl, fun P n hn hp => ?_, fun P n hn hp => ?_⟩
      · obtain ⟨m, rfl, hm⟩ := fu_m hn
        rw [pk_m1]
        refine br_f (nI_pos (by omega)) ⟨k8, ?_⟩
        rw [ek, ex, es, eq]
        exact ⟨hsi, hqi, br_f z hp⟩
      · obtain ⟨m, rfl, hm⟩ := fu_m hn
        refine br_f hpos ?_
        rw [nI_pred, ek, ey, es, eq]
        exact ⟨k9, h0, hsi, hqi, br_t (Int32.not_lt.mp z) hp⟩
end
/-- the queue with a new entry at p -/
theorem iv_q_ins {L nx p q : Nat} {qn : Nat → Nat} {qx qx' qy' st : Nat → Int32} (hL : L ≤ 7) (hp : p ≤ L) (h5 : ∀ j, j < L → qx j = nI (qn j) ∧ qn j < nx ∧ st (qn j % 32) = 0) (h6 : ∀ i j, i < L → j < L → i ≠ j → qn i % 32 ≠ qn j % 32)
    (hq : nx % 32 = q) (hst : st q = 0) (hf : ∀ j, j < L → qn j % 32 ≠ q) (a1 : ∀ j, j < 8 → qy' j = qx' j) (a2 : ∀ j, j < p → qx' j = qx j) (a3 : ∀ j, p < j → j ≤ L → qx' j = qx (j - 1)) :
    iv_q 0 0 (L + 1) (nx + 1) (fun j => if j < p then qn j else if j = p then nx else qn (j - 1)) (upd qx' p (nI nx)) (upd qy' p (nI nx)) st := by
  have key : ∀ j, iv_qs 0 0 (L + 1) j → (j < p ∧ j < L) ∨ j = p ∨ (¬ j < p ∧ ¬ j = p ∧ p < j ∧ j ≤ L ∧ j - 1 < L) := by
    intro j hj
    rcases hj with hj | hj
    · omega
    · omega
  refine ⟨Nat.le_refl _, Nat.zero_le _, by omega, fun j hj => ?_, fun j hj => ?_, fun i j hi hj hij => ?_⟩
  · by_cases e : j = p
    · rw [e, pk_us, pk_us]
    · rw [pk_un e, pk_un e]; exact a1 j hj
  · dsimp only
    rcases key j hj with ⟨e, e'⟩ | e | ⟨e1, e2, e3, e4, e5⟩
    · rw [if_pos e, pk_un (by omega), a2 j e]
      obtain ⟨x, y, z⟩ := h5 j e'
      exact ⟨x, by omega, z⟩
    · rw [if_neg (by omega), if_pos e, e, pk_us, hq]
      exact ⟨rfl, by omega, hst⟩
    · rw [if_neg e1, if_neg e2, pk_un e2, a3 j e3 e4]
      obtain ⟨x, y, z⟩ := h5 (j - 1) e5
      exact ⟨x, by omega, z⟩
  · dsimp only
    rcases key i hi with ⟨e, e'⟩ | e | ⟨e1, e2, e3, e4, e5⟩
    · rcases key j hj with ⟨f, f'⟩ | f | ⟨f1, f2, f3, f4, f5⟩
      · rw [if_pos e, if_pos f]; exact h6 i j e' f' hij
      · rw [if_pos e, if_neg (by omega), if_pos f, hq]; exact hf i e'
      · rw [if_pos e, if_neg f1, if_neg f2]; exact h6 i (j - 1) e' f5 (by omega)
    · rcases key j hj with ⟨f, f'⟩ | f | ⟨f1, f2, f3, f4, f5⟩
      · rw [if_neg (by omega), if_pos e, if_pos f, hq]; exact Ne.symm (hf j f')
      · exact absurd (e.trans f.symm) hij
      · rw [if_neg (by omega), if_pos e, if_neg f1, if_neg f2, hq]; exact Ne.symm (hf (j - 1) f5)
    · rcases key j hj with ⟨f, f'⟩ | f | ⟨f1, f2, f3, f4, f5⟩
      · rw [if_neg e1, if_neg e2, if_pos f]; exact h6 (i - 1) j e5 f' (by omega)
      · rw [if_neg e1, if_neg e2, if_neg (by omega), if_pos f, hq]; exact hf (i - 1) e5
      · rw [if_neg e1, if_neg e2, if_neg f1, if_neg f2]; exact h6 (i - 1) (j - 1) e5 f5 (by omega)
theorem iv_q_nx {l k w nxt nxt' : Nat} {qn : Nat → Nat} {qx qy st : Nat → Int32} (h : iv_q l k w nxt qn qx qy st) (hn : nxt ≤ nxt') : iv_q l k w nxt' qn qx qy st := by
  obtain ⟨h1, h2, h3, h4, h5, h6⟩ := h
  refine ⟨h1, h2, h3, h4, fun j hj => ?_, h6⟩
  obtain ⟨a, b, c⟩ := h5 j hj
  exact ⟨a, by omega, c⟩
section
variable (now rc ql nx : Nat) (zae zal zan zat zbr zca zcl zcm zcr zen zfa zfi zho zhs zky zpa zpt zqx zqy zra zre zrp zrs zru zse zsi zsl zso zst zsu zsy zti ztk ztr ztu zup zwe zwl zwo : Nat → Int32) (zto : Nat → Int64)
theorem eq_lt8 {dn B q : Nat} {qn : Nat → Nat} (hset : iv_set zse) (hcli : iv_cli zre zho) (hsrv : iv_srv zwe zti) (hrt : iv_rt rc zrs) (hfnd : iv_fnd B zfi zsi zwl) (hreq : iv_req zcl zky zpt zst zat) (hrun : iv_run (nx + 1) zst zat zru)
    (hqs : iv_q 0 0 ql nx qn zqx zqy zst) (htot : iv_tot (nx + 1) dn zto) (hnx : nx < 2 ^ 30) (hq : q < 32) (hqx : nx % 32 = q) (hst : zst q = 0) (hf : ∀ j, j < ql → qn j % 32 ≠ q) (hl : ql < 8) :
    ∃ u' v' w', md_R now (nx + 1) dn B 0 0 w' u' v' ∧ (∀ P : SX → Prop, P u' → wX_enqueue_59 P (nI nx) (nI q) (nI now) (nI rc) (nI ql) zse zto ztu zwe zsl zpa zbr zup zti zfa zcr zru zsu zfi zrp zrs zca zre ztk zho zhs zst zcl zpt zky zwo zra zcm zen zat zan ztr zae zal zqx) ∧ (∀ P : SY → Prop, P v' → ∃ n16 : Nat, wY_place_16 P (nI q) (nI now) (nI rc) (nI (nx + 1)) (nI ql) n16 (nI ql) zwe zsl zpa zti zfa zcr zsu zsi zwl zbr zup zrp zrs zse zca zre ztk zho zhs zcl zpt zky zwo zra zst zat zan ztr zcm zen zae zal zqy zto ztu zso) := by
  obtain ⟨h1, h2, h3, h4, h5, h6⟩ := hqs
  obtain ⟨p, qx', qy', hp, a1, a8, a2, a3, a4, X1, Y1⟩ := iq_loop now rc ql (nx + 1) zae zal zan zat zbr zca zcl zcm zcr zen zfa zfi zho zhs zky zpa zpt zra zre zrp zrs zru zse zsi zsl zso zst zsu zst zti ztk ztr ztu zup zwe zwl zwo zto (x1 := nI nx) (qn := qn) ql zen zto hq ql (by omega) zqx zqy h4 (fun j hj => by
    obtain ⟨a, b, _⟩ := h5 j (Or.inr ⟨Nat.zero_le _, hj⟩)
    exact ⟨a, by omega⟩)
  have p8 : vp_in (nI p) 8 := vp_in_nI (by omega) (by decide)
  have p9 : vp_in (nI p) 9 := vp_in_nI (by omega) (by decide)
  have ep : (nI p).toNatClampNeg = p := nI_clamp (by omega)
  have hR : md_R now (nx + 1) dn B 0 0 (ql + 1) (nI now, nI rc, nI (ql + 1), zse, zto, ztu, zwe, zsl, zpa, zbr, zup, zti, zfa, zcr, zru, zsu, zfi, zrp, zrs, zca, zre, ztk, zho, zhs, zst, zcl, zpt, zky, zwo, zra, zcm, zen, zat, zan, ztr, zae, zal, upd qx' p (nI nx)) (nI now, nI rc, nI (nx + 1), nI (ql + 1), zwe, zsl, zpa, zti, zfa, zcr, zsu, zsi, zwl, zbr, zup, zrp, zrs, zse, zca, zre, ztk, zho, zhs, zcl, zpt, zky, zwo, zra, zst, zat, zan, ztr, zcm, zen, zae, zal, upd qy' p (nI nx), zto, ztu, zso) :=
    md_mk hset hcli hsrv hrt hfnd hreq hrun (iv_q_ins (by omega) hp (fun j hj => h5 j (Or.inr ⟨Nat.zero_le _, hj⟩)) (fun i j hi hj => h6 i j (Or.inr ⟨Nat.zero_le _, hi⟩) (Or.inr ⟨Nat.zero_le _, hj⟩)) hqx hst hf a1 a2 a3) htot
  have e1 : nI ql - 1 = nI ql + (-1) := Int32.sub_eq_add_neg ..
  have eux : upd qx' (nI p).toNatClampNeg (nI nx) = upd qx' p (nI nx) := by rw [ep]
  have euy : upd qy' (nI p).toNatClampNeg (nI (nx + 1) - 1) = upd qy' p (nI nx) := by rw [ep, nI_pred]
  have h9 : ¬ (9 : Int32) ≤ nI (ql + 1) := nI_ge (b := 9) (by omega) (by decide)
  exact ⟨_, _, _, hR, fun P hP => nm_r e1 ⟨ql + 1, X1 P (ql + 1) (by omega) ⟨p8, nm_r eux (nm_r (nI_1 ql) hP)⟩⟩,
    fun P hP => ⟨ql + 1, Y1 P (ql + 1) (by omega) ⟨p9, nm_r euy (nm_r (nI_1 ql) (br_f h9 hP))⟩⟩⟩
end
section
variable (now rc ql nx : Nat) (zae zal zan zat zbr zca zcl zcm zcr zen zfa zfi zho zhs zky zpa zpt zqx zqy zra zre zrp zrs zru zse zsi zsl zso zst zsu zsy zti ztk ztr ztu zup zwe zwl zwo : Nat → Int32) (zto : Nat → Int64)
theorem eq_full {dn B q : Nat} {qn : Nat → Nat} (hset : iv_set zse) (hcli : iv_cli zre zho) (hsrv : iv_srv zwe zti) (hrt : iv_rt rc zrs) (hfnd : iv_fnd B zfi zsi zwl) (hreq : iv_req zcl zky zpt zst zat) (hrun : iv_run (nx + 1) zst zat zru)
    (hqs : iv_q 0 0 8 nx qn zqx zqy zst) (htot : iv_tot (nx + 1) dn zto) (hnx : nx < 2 ^ 30) (hq : q < 32) (hqx : nx % 32 = q) (hst : zst q = 0) (hf : ∀ j, j < 8 → qn j % 32 ≠ q) :
    ∃ u' v' w', md_R now (nx + 1) dn B 0 0 w' u' v' ∧ (∀ P : SX → Prop, P u' → wpX_enqueue P (nI now, nI rc, nI 8, zse, zto, ztu, zwe, zsl, zpa, zbr, zup, zti, zfa, zcr, zru, zsu, zfi, zrp, zrs, zca, zre, ztk, zho, zhs, zst, zcl, zpt, zky, zwo, zra, zcm, zen, zat, zan, ztr, zae, zal, zqx) (nI nx)) ∧ (∀ P : SY → Prop, P v' → ∃ n16 : Nat, wY_place_16 P (nI q) (nI now) (nI rc) (nI (nx + 1)) (nI 8) n16 (nI 8) zwe zsl zpa zti zfa zcr zsu zsi zwl zbr zup zrp zrs zse zca zre ztk zho zhs zcl zpt zky zwo zra zst zat zan ztr zcm zen zae zal zqy zto ztu zso) := by
  have hqs0 := hqs
  obtain ⟨h1, h2, h3, h4, h5, h6⟩ := hqs
  have h5' : ∀ j, j < 8 → zqx j = nI (qn j) ∧ qn j < nx ∧ zst (qn j % 32) = 0 := fun j hj => h5 j (Or.inr ⟨Nat.zero_le _, hj⟩)
  have h6' : ∀ i j, i < 8 → j < 8 → i ≠ j → qn i % 32 ≠ qn j % 32 := fun i j hi hj => h6 i j (Or.inr ⟨Nat.zero_le _, hi⟩) (Or.inr ⟨Nat.zero_le _, hj⟩)
  obtain ⟨k1, k2, k3⟩ := h5' 7 (by decide)
  have hqi : vp_in (nI q) 32 := vp_in_nI hq (by decide)
  have eq : (nI q).toNatClampNeg = q := nI_clamp (by omega)
  have hs32 : qn 7 % 32 < 32 := Nat.mod_lt _ (by decide)
  have hsn : qn 7 % 32 < nx + 1 := by have := Nat.mod_le (qn 7) 32; omega
  have hsi : vp_in (nI (qn 7 % 32)) 32 := vp_in_nI hs32 (by decide)
  have es : (nI (qn 7 % 32)).toNatClampNeg = qn 7 % 32 := nI_clamp (by omega)
  have ex : zqx 7 &&& 31 = nI (qn 7 % 32) := by rw [k1]; exact ms_slot (by omega)
  have ey : zqy 7 - zqy 7 / 32 * 32 = nI (qn 7 % 32) := by rw [h4 7 (by decide), k1]; exact ms_rem (by omega)
  have exq : nI nx &&& 31 = nI q := by rw [← hqx]; exact ms_slot (by omega)
  have h0 : ¬ (32 : Int32) = 0 := by decide
  have l8 : ¬ nI 8 < 8 := by decide
  have e7 : nI 8 - 1 = nI 7 := by decide
  have e7' : nI 8 + (-1) = nI 7 := by decide
  have c7 : (nI 7).toNatClampNeg = 7 := nI_clamp (by decide)
  have c8 : (nI 8).toNatClampNeg = 8 := nI_clamp (by decide)
  have v79 : vp_in (nI 7) 9 := vp_in_nI (by decide) (by decide)
  have v89 : vp_in (nI 8) 9 := vp_in_nI (by decide) (by decide)
  have n80 : ¬ nI 8 ≤ 0 := by decide
  have s99 : (9 : Int32) ≤ nI 9 := by decide
  by_cases z : zra (qn 7 % 32) < zra q
  · obtain ⟨p, qx', qy', hp, a1, a8, a2, a3, a4, X1, Y1⟩ := iq_loop now rc 8 (nx + 1) zae zal zan zat zbr zca zcl zcm zcr zen zfa zfi zho zhs zky zpa zpt zra zre zrp zrs zru zse zsi zsl zso (upd zst (qn 7 % 32) 5) zsu zst zti ztk ztr ztu zup zwe zwl zwo zto (x1 := nI nx) (qn := qn) 7 (upd zen (qn 7 % 32) (nI now)) (vp_updL zto 5 (zto 5 + 1)) hq 7 (by omega) zqx (upd zqy 8 (zqy 7))
      (fun j hj => by rw [pk_un (by omega)]; exact h4 j hj) (fun j hj => by
        obtain ⟨a, b, _⟩ := h5' j (by omega)
        exact ⟨a, by omega⟩)
    have p8 : vp_in (nI p) 8 := vp_in_nI (by omega) (by decide)
    have p9 : vp_in (nI p) 9 := vp_in_nI (by omega) (by decide)
    have ep : (nI p).toNatClampNeg = p := nI_clamp (by omega)
    have eux : upd qx' (nI p).toNatClampNeg (nI nx) = upd qx' p (nI nx) := by rw [ep]
    have euy : upd qy' (nI p).toNatClampNeg (nI (nx + 1) - 1) = upd qy' p (nI nx) := by rw [ep, nI_pred]
    have ey8 : (upd qy' p (nI nx)) 8 = nI (qn 7) := by rw [pk_un (by omega), a8, pk_us, h4 7 (by decide), k1]
    have hR : md_R now (nx + 1) dn B 0 0 8 (nI now, nI rc, nI 8, zse, vp_updL zto 5 (zto 5 + 1), ztu, zwe, zsl, zpa, zbr, zup, zti, zfa, zcr, zru, zsu, zfi, zrp, zrs, zca, zre, ztk, zho, zhs, upd zst (qn 7 % 32) 5, zcl, zpt, zky, zwo, zra, zcm, upd zen (qn 7 % 32) (nI now), zat, zan, ztr, zae, zal, upd qx' p (nI nx)) (nI now, nI rc, nI (nx + 1), nI 8, zwe, zsl, zpa, zti, zfa, zcr, zsu, zsi, zwl, zbr, zup, zrp, zrs, zse, zca, zre, ztk, zho, zhs, zcl, zpt, zky, zwo, zra, upd zst (qn 7 % 32) 5, zat, zan, ztr, zcm, upd zen (qn 7 % 32) (nI now), zae, zal, upd qy' p (nI nx), vp_updL zto 5 (zto 5 + 1), ztu, zso) :=
      md_mk hset hcli hsrv hrt hfnd (iv_req_st hreq (by decide)) (iv_run_same hrun hsn hs32 (by rw [k3]; decide) (by decide))
        (iv_q_ins (L := 7) (by omega) hp (fun j hj => by
          obtain ⟨a, b, c⟩ := h5' j (by omega)
          exact ⟨a, b, by rw [pk_un (h6' j 7 (by omega) (by decide) (by omega))]; exact c⟩) (fun i j hi hj => h6' i j (by omega) (by omega)) hqx (by rw [pk_un (Ne.symm (hf 7 (by decide)))]; exact hst) (fun j hj => hf j (by omega)) a1 a2 a3) (iv_tot_h htot (by decide) (by decide))
    refine ⟨_, _, _, hR, fun P hP => nm_r exq (br_f l8 (nm_r ex ⟨hsi, hqi, ?_⟩)), fun P hP => ⟨9, br_f n80 ?_⟩⟩
    · rw [es, eq]
      exact br_t z (fi_X now rc 8 zae zal zan zat zbr zca zcl zcm zcr zen zfa zfi zho zhs zky zpa zpt zqx zra zre zrp zrs zru zse zsl zst zsu zti ztk ztr ztu zup zwe zwo zto (h := 5) hs32 (by decide) _ (nm_r (show nI 7 - 1 = nI 7 + (-1) by decide) ⟨8, X1 P 8 (by omega) ⟨p8, nm_r eux (nm_r (nI_1 7) hP)⟩⟩))
    · rw [e7, c7, ey, es, eq, c8]
      refine ⟨v79, h0, hsi, hqi, br_f (Int32.not_le.mpr z) ⟨v79, v89, nm_e (nm_r e7' (Y1 P 8 (by omega) ⟨p9, nm_r euy (nm_r (show nI 8 + 1 = nI 9 by decide) (br_t s99 ⟨h0, ?_⟩))⟩))⟩⟩
      rw [ey8, ms_rem (by omega)]
      exact fi_Y now rc 8 (nx + 1) zae zal zan zat zbr zca zcl zcm zcr zen zfa zho zhs zky zpa zpt (upd qy' p (nI nx)) zra zre zrp zrs zse zsi zsl zso zsu zst zti ztk ztr ztu zup zwe zwl zwo zto (h := 5) hs32 (by decide) _ hP
  · have hR : md_R now (nx + 1) dn B 0 0 8 (nI now, nI rc, nI 8, zse, vp_updL zto 5 (zto 5 + 1), ztu, zwe, zsl, zpa, zbr, zup, zti, zfa, zcr, zru, zsu, zfi, zrp, zrs, zca, zre, ztk, zho, zhs, upd zst q 5, zcl, zpt, zky, zwo, zra, zcm, upd zen q (nI now), zat, zan, ztr, zae, zal, zqx) (nI now, nI rc, nI (nx + 1), nI 8, zwe, zsl, zpa, zti, zfa, zcr, zsu, zsi, zwl, zbr, zup, zrp, zrs, zse, zca, zre, ztk, zho, zhs, zcl, zpt, zky, zwo, zra, upd zst q 5, zat, zan, ztr, zcm, upd zen q (nI now), zae, zal, upd zqy 8 (nI nx), vp_updL zto 5 (zto 5 + 1), ztu, zso) :=
      md_mk hset hcli hsrv hrt hfnd (iv_req_st hreq (by decide)) (iv_run_same hrun (by have := Nat.mod_le nx 32; omega) hq (by rw [hst]; decide) (by decide))
        ⟨h1, h2, h3, fun j hj => by rw [pk_un (by omega)]; exact h4 j hj, (iv_q_nx (iv_q_st hqs0 (fun j hj => hf j (by rcases hj with hj | hj <;> omega))) (by omega)).2.2.2.2.1, h6⟩ (iv_tot_h htot (by decide) (by decide))
    refine ⟨_, _, _, hR, fun P hP => nm_r exq (br_f l8 (nm_r ex ⟨hsi, hqi, ?_⟩)), fun P hP => ⟨1, br_f n80 ?_⟩⟩
    · rw [es, eq]
      exact br_f z (fi_X now rc 8 zae zal zan zat zbr zca zcl zcm zcr zen zfa zfi zho zhs zky zpa zpt zqx zra zre zrp zrs zru zse zsl zst zsu zti ztk ztr ztu zup zwe zwo zto (h := 5) hq (by decide) _ hP)
    · rw [e7, c7, ey, es, eq]
      refine ⟨v79, h0, hsi, hqi, br_t (Int32.not_lt.mp z) ⟨v89, ?_⟩⟩
      rw [c8, nI_pred]
      refine nm_e (nm_r (show nI 8 + 1 = nI 9 by decide) (br_t s99 ⟨h0, ?_⟩))
      rw [pk_us, ms_rem (by omega), hqx]
      exact fi_Y now rc 8 (nx + 1) zae zal zan zat zbr zca zcl zcm zcr zen zfa zho zhs zky zpa zpt (upd zqy 8 (nI nx)) zra zre zrp zrs zse zsi zsl zso zsu zst zti ztk ztr ztu zup zwe zwl zwo zto (h := 5) hq (by decide) _ hP
end
end
section
/-! arrive -/
section
variable (now rc ql nx : Nat) (zae zal zan zat zbr zca zcl zcm zcr zen zfa zfi zho zhs zky zpa zpt zqx zqy zra zre zrp zrs zru zse zsi zsl zso zst zsu zsy zti ztk ztr ztu zup zwe zwl zwo : Nat → Int32) (zto : Nat → Int64)
theorem et_X {q c p key : Nat} {v4 v5 : Int32} (hq : q < 32) (P : SX → Prop) (hP : P (nI now, nI rc, nI ql, zse, zto, ztu, zwe, zsl, zpa, zbr, zup, zti, zfa, zcr, zru, zsu, zfi, zrp, zrs, zca, zre, ztk, zho, zhs, upd zst q 0, upd zcl q (nI c), upd zpt q (nI p), upd zky q (nI key), upd zwo q v4, upd zra q v5, upd zcm q (nI now), upd zen q (-1), upd zat q (-1), upd zan q 0, upd ztr q 0, zae, zal, zqx)) : wpX_enter P (nI now, nI rc, nI ql, zse, zto, ztu, zwe, zsl, zpa, zbr, zup, zti, zfa, zcr, zru, zsu, zfi, zrp, zrs, zca, zre, ztk, zho, zhs, zst, zcl, zpt, zky, zwo, zra, zcm, zen, zat, zan, ztr, zae, zal, zqx) (nI q) (nI c) (nI p) (nI key) v4 v5 := by
  have hqi : vp_in (nI q) 32 := vp_in_nI hq (by decide)
  have eq : (nI q).toNatClampNeg = q := nI_clamp (by omega)
  unfold wpX_enter
  rw [eq]
  exact ⟨hqi, nm_e ⟨hqi, nm_e ⟨hqi, nm_e ⟨hqi, nm_e ⟨hqi, nm_e ⟨hqi, nm_e ⟨hqi, nm_e ⟨hqi, nm_e ⟨hqi, nm_e ⟨hqi, nm_e ⟨hqi, nm_e hP⟩⟩⟩⟩⟩⟩⟩⟩⟩⟩⟩
end
theorem md_ny {now nx dn B w : Nat} {u : SX} {v : SY} (hR : md_R now (nx + 1) dn B 0 0 w u v) (P : Int32 → SY → Prop) (h : P (nI nx) v) : match v with | (g_time, g_routes, g_next, g_waiting, g_weight, g_slots, g_pace, g_till, g_failures, g_credit, g_successes, g_sick, g_well, g_broken, g_up, g_routePath, g_routeServers, g_setting, g_capacity, g_refill, g_tokens, g_home, g_homeTime, g_client, g_path, g_key, g_work, g_rank, g_state, g_at, g_attempts, g_tried, g_came, g_ended, g_ends, g_late, g_queue, g_total, g_took, g_sorted) => P (g_next - 1) (g_time, g_routes, g_next, g_waiting, g_weight, g_slots, g_pace, g_till, g_failures, g_credit, g_successes, g_sick, g_well, g_broken, g_up, g_routePath, g_routeServers, g_setting, g_capacity, g_refill, g_tokens, g_home, g_homeTime, g_client, g_path, g_key, g_work, g_rank, g_state, g_at, g_attempts, g_tried, g_came, g_ended, g_ends, g_late, g_queue, g_total, g_took, g_sorted) := by
  obtain ⟨rc, qn, zae, zal, zan, zat, zbr, zca, zcl, zcm, zcr, zen, zfa, zfi, zho, zhs, zky, zpa, zpt, zqx, zqy, zra, zre, zrp, zrs, zru, zse, zsi, zsl, zso, zst, zsu, zti, ztk, ztr, ztu, zup, zwe, zwl, zwo, zto, rfl, rfl, _⟩ := hR
  rw [← nI_pred] at h
  exact h
section
variable (now rc ql nx : Nat) (zae zal zan zat zbr zca zcl zcm zcr zen zfa zfi zho zhs zky zpa zpt zqx zqy zra zre zrp zrs zru zse zsi zsl zso zst zsu zsy zti ztk ztr ztu zup zwe zwl zwo : Nat → Int32) (zto : Nat → Int64)
theorem ah_pair {dn B q p : Nat} {qn : Nat → Nat} (hset : iv_set zse) (hcli : iv_cli zre zho) (hsrv : iv_srv zwe zti) (hrt : iv_rt rc zrs) (hfnd : iv_fnd B zfi zsi zwl) (hreq : iv_req zcl zky zpt zst zat) (hrun : iv_run (nx + 1) zst zat zru)
    (hqs : iv_q 0 0 ql nx qn zqx zqy zst) (htot : iv_tot (nx + 1) dn zto) (hnx : nx < 2 ^ 30) (hq : q < 32) (hqx : nx % 32 = q) (hst : zst q = 0) (hf : ∀ j, j < ql → qn j % 32 ≠ q) (hp : p < 4096) :
    ∃ u' v' w', md_R now (nx + 1) dn B 0 0 w' u' v' ∧
    (∀ P : Int32 → SX → Prop, P (nI nx) u' → wpX_routeOf (fun r => (((r = (-1) → (wpX_finish (fun u => match u with | (g_now, g_routeCount, g_queueLength, g_settings, g_totals, g_tookUnits, g_weightOf, g_slotsOf, g_paceOf, g_isBroken, g_isUp, g_shutTill, g_failures, g_credit, g_running, g_succeeded, g_findings, g_routePath, g_routeServers, g_capacityOf, g_refillOf, g_tokenCount, g_homeServer, g_homeSince, g_stateOf, g_clientOf, g_pathOf, g_keyOf, g_workOf, g_rankOf, g_cameAt, g_endedAt, g_serverOf, g_attempts, g_triedServers, g_attemptEnd, g_attemptTooLong, g_queue) => (P (nI nx) (g_now, g_routeCount, g_queueLength, g_settings, g_totals, g_tookUnits, g_weightOf, g_slotsOf, g_paceOf, g_isBroken, g_isUp, g_shutTill, g_failures, g_credit, g_running, g_succeeded, g_findings, g_routePath, g_routeServers, g_capacityOf, g_refillOf, g_tokenCount, g_homeServer, g_homeSince, g_stateOf, g_clientOf, g_pathOf, g_keyOf, g_workOf, g_rankOf, g_cameAt, g_endedAt, g_serverOf, g_attempts, g_triedServers, g_attemptEnd, g_attemptTooLong, g_queue))) (nI now, nI rc, nI ql, zse, zto, ztu, zwe, zsl, zpa, zbr, zup, zti, zfa, zcr, zru, zsu, zfi, zrp, zrs, zca, zre, ztk, zho, zhs, zst, zcl, zpt, zky, zwo, zra, zcm, zen, zat, zan, ztr, zae, zal, zqx) (nI q) 5)) ∧ (¬ r = (-1) → (wpX_attempt (fun r2 u => match u with | (g_now, g_routeCount, g_queueLength, g_settings, g_totals, g_tookUnits, g_weightOf, g_slotsOf, g_paceOf, g_isBroken, g_isUp, g_shutTill, g_failures, g_credit, g_running, g_succeeded, g_findings, g_routePath, g_routeServers, g_capacityOf, g_refillOf, g_tokenCount, g_homeServer, g_homeSince, g_stateOf, g_clientOf, g_pathOf, g_keyOf, g_workOf, g_rankOf, g_cameAt, g_endedAt, g_serverOf, g_attempts, g_triedServers, g_attemptEnd, g_attemptTooLong, g_queue) => (((r2 = 0 → (wpX_enqueue (fun u => match u with | (g_now, g_routeCount, g_queueLength, g_settings, g_totals, g_tookUnits, g_weightOf, g_slotsOf, g_paceOf, g_isBroken, g_isUp, g_shutTill, g_failures, g_credit, g_running, g_succeeded, g_findings, g_routePath, g_routeServers, g_capacityOf, g_refillOf, g_tokenCount, g_homeServer, g_homeSince, g_stateOf, g_clientOf, g_pathOf, g_keyOf, g_workOf, g_rankOf, g_cameAt, g_endedAt, g_serverOf, g_attempts, g_triedServers, g_attemptEnd, g_attemptTooLong, g_queue) => (P (nI nx) (g_now, g_routeCount, g_queueLength, g_settings, g_totals, g_tookUnits, g_weightOf, g_slotsOf, g_paceOf, g_isBroken, g_isUp, g_shutTill, g_failures, g_credit, g_running, g_succeeded, g_findings, g_routePath, g_routeServers, g_capacityOf, g_refillOf, g_tokenCount, g_homeServer, g_homeSince, g_stateOf, g_clientOf, g_pathOf, g_keyOf, g_workOf, g_rankOf, g_cameAt, g_endedAt, g_serverOf, g_attempts, g_triedServers, g_attemptEnd, g_attemptTooLong, g_queue))) (g_now, g_routeCount, g_queueLength, g_settings, g_totals, g_tookUnits, g_weightOf, g_slotsOf, g_paceOf, g_isBroken, g_isUp, g_shutTill, g_failures, g_credit, g_running, g_succeeded, g_findings, g_routePath, g_routeServers, g_capacityOf, g_refillOf, g_tokenCount, g_homeServer, g_homeSince, g_stateOf, g_clientOf, g_pathOf, g_keyOf, g_workOf, g_rankOf, g_cameAt, g_endedAt, g_serverOf, g_attempts, g_triedServers, g_attemptEnd, g_attemptTooLong, g_queue) (nI nx))) ∧ (¬ r2 = 0 → (P (nI nx) (g_now, g_routeCount, g_queueLength, g_settings, g_totals, g_tookUnits, g_weightOf, g_slotsOf, g_paceOf, g_isBroken, g_isUp, g_shutTill, g_failures, g_credit, g_running, g_succeeded, g_findings, g_routePath, g_routeServers, g_capacityOf, g_refillOf, g_tokenCount, g_homeServer, g_homeSince, g_stateOf, g_clientOf, g_pathOf, g_keyOf, g_workOf, g_rankOf, g_cameAt, g_endedAt, g_serverOf, g_attempts, g_triedServers, g_attemptEnd, g_attemptTooLong, g_queue)))))) (nI now, nI rc, nI ql, zse, zto, ztu, zwe, zsl, zpa, zbr, zup, zti, zfa, zcr, zru, zsu, zfi, zrp, zrs, zca, zre, ztk, zho, zhs, zst, zcl, zpt, zky, zwo, zra, zcm, zen, zat, zan, ztr, zae, zal, zqx) (nI q)))))) (nI now, nI rc, nI ql, zse, zto, ztu, zwe, zsl, zpa, zbr, zup, zti, zfa, zcr, zru, zsu, zfi, zrp, zrs, zca, zre, ztk, zho, zhs, zst, zcl, zpt, zky, zwo, zra, zcm, zen, zat, zan, ztr, zae, zal, zqx) (nI p)) ∧
    (∀ P : Int32 → SY → Prop, P (nI nx) v' → wpY_serversOf (fun r => (((0 ≤ r → (wpY_place (fun u => match u with | (g_time, g_routes, g_next, g_waiting, g_weight, g_slots, g_pace, g_till, g_failures, g_credit, g_successes, g_sick, g_well, g_broken, g_up, g_routePath, g_routeServers, g_setting, g_capacity, g_refill, g_tokens, g_home, g_homeTime, g_client, g_path, g_key, g_work, g_rank, g_state, g_at, g_attempts, g_tried, g_came, g_ended, g_ends, g_late, g_queue, g_total, g_took, g_sorted) => (P (g_next - 1) (g_time, g_routes, g_next, g_waiting, g_weight, g_slots, g_pace, g_till, g_failures, g_credit, g_successes, g_sick, g_well, g_broken, g_up, g_routePath, g_routeServers, g_setting, g_capacity, g_refill, g_tokens, g_home, g_homeTime, g_client, g_path, g_key, g_work, g_rank, g_state, g_at, g_attempts, g_tried, g_came, g_ended, g_ends, g_late, g_queue, g_total, g_took, g_sorted))) (nI now, nI rc, nI (nx + 1), nI ql, zwe, zsl, zpa, zti, zfa, zcr, zsu, zsi, zwl, zbr, zup, zrp, zrs, zse, zca, zre, ztk, zho, zhs, zcl, zpt, zky, zwo, zra, zst, zat, zan, ztr, zcm, zen, zae, zal, zqy, zto, ztu, zso) (nI q))) ∧ (¬ 0 ≤ r → (wpY_over (fun u => match u with | (g_time, g_routes, g_next, g_waiting, g_weight, g_slots, g_pace, g_till, g_failures, g_credit, g_successes, g_sick, g_well, g_broken, g_up, g_routePath, g_routeServers, g_setting, g_capacity, g_refill, g_tokens, g_home, g_homeTime, g_client, g_path, g_key, g_work, g_rank, g_state, g_at, g_attempts, g_tried, g_came, g_ended, g_ends, g_late, g_queue, g_total, g_took, g_sorted) => (P (g_next - 1) (g_time, g_routes, g_next, g_waiting, g_weight, g_slots, g_pace, g_till, g_failures, g_credit, g_successes, g_sick, g_well, g_broken, g_up, g_routePath, g_routeServers, g_setting, g_capacity, g_refill, g_tokens, g_home, g_homeTime, g_client, g_path, g_key, g_work, g_rank, g_state, g_at, g_attempts, g_tried, g_came, g_ended, g_ends, g_late, g_queue, g_total, g_took, g_sorted))) (nI now, nI rc, nI (nx + 1), nI ql, zwe, zsl, zpa, zti, zfa, zcr, zsu, zsi, zwl, zbr, zup, zrp, zrs, zse, zca, zre, ztk, zho, zhs, zcl, zpt, zky, zwo, zra, zst, zat, zan, ztr, zcm, zen, zae, zal, zqy, zto, ztu, zso) (nI q) 5))))) (nI now, nI rc, nI (nx + 1), nI ql, zwe, zsl, zpa, zti, zfa, zcr, zsu, zsi, zwl, zbr, zup, zrp, zrs, zse, zca, zre, ztk, zho, zhs, zcl, zpt, zky, zwo, zra, zst, zat, zan, ztr, zcm, zen, zae, zal, zqy, zto, ztu, zso) (nI p)) := by
  have hr12 : rc ≤ 12 := hrt.1
  have hqn : q < nx + 1 := by have := Nat.mod_le nx 32; omega
  have hqi : vp_in (nI q) 32 := vp_in_nI hq (by decide)
  have exq : nI nx &&& 31 = nI q := by rw [← hqx]; exact ms_slot (by omega)
  have hf' : ∀ j, iv_qs 0 0 ql j → qn j % 32 ≠ q := fun j hj => hf j (by rcases hj with hj | hj <;> omega)
  have hn1 : ¬ zst q = 1 := by rw [hst]; decide
  obtain ⟨hcl, hky, hpt, hat⟩ := hreq q hq
  obtain ⟨r, sv, hrs, hX, hY⟩ := sv_pair now rc ql (nx + 1) zae zal zan zat zbr zca zcl zcm zcr zen zfa zfi zho zhs zky zpa zpt zqx zqy zra zre zrp zrs zru zse zsi zsl zso zst zsu zst zti ztk ztr ztu zup zwe zwl zwo zto hr12 hp
  rcases hrs with ⟨rfl, rfl⟩ | ⟨i, hi, rfl, rfl⟩
  · have hR : md_R now (nx + 1) dn B 0 0 ql (nI now, nI rc, nI ql, zse, vp_updL zto 5 (zto 5 + 1), ztu, zwe, zsl, zpa, zbr, zup, zti, zfa, zcr, zru, zsu, zfi, zrp, zrs, zca, zre, ztk, zho, zhs, upd zst q 5, zcl, zpt, zky, zwo, zra, zcm, upd zen q (nI now), zat, zan, ztr, zae, zal, zqx) (nI now, nI rc, nI (nx + 1), nI ql, zwe, zsl, zpa, zti, zfa, zcr, zsu, zsi, zwl, zbr, zup, zrp, zrs, zse, zca, zre, ztk, zho, zhs, zcl, zpt, zky, zwo, zra, upd zst q 5, zat, zan, ztr, zcm, upd zen q (nI now), zae, zal, zqy, vp_updL zto 5 (zto 5 + 1), ztu, zso) :=
      md_mk hset hcli hsrv hrt hfnd (iv_req_st hreq (by decide)) (iv_run_same hrun hqn hq hn1 (by decide)) (iv_q_nx (iv_q_st hqs hf') (by omega)) (iv_tot_h htot (by decide) (by decide))
    exact ⟨_, _, _, hR, fun P hP => hX _ (br_t rfl (fi_X now rc ql zae zal zan zat zbr zca zcl zcm zcr zen zfa zfi zho zhs zky zpa zpt zqx zra zre zrp zrs zru zse zsl zst zsu zti ztk ztr ztu zup zwe zwo zto (h := 5) hq (by decide) _ hP)), fun P hP => hY _ (br_f (by decide) (fi_Y now rc ql (nx + 1) zae zal zan zat zbr zca zcl zcm zcr zen zfa zho zhs zky zpa zpt zqy zra zre zrp zrs zse zsi zsl zso zsu zst zti ztk ztr ztu zup zwe zwl zwo zto (h := 5) hq (by decide) _ (md_ny hR P hP)))⟩
  · have hsv : 0 ≤ zrs i := hrt.2 i hi
    have hi1 : ¬ nI i = -1 := ms_nI_m1 (by omega)
    rcases am_pair now rc ql (nx + 1) zae zal zan zat zbr zca zcl zcm zcr zen zfa zfi zho zhs zky zpa zpt zqx zqy zra zre zrp zrs zru zse zsi zsl zso zst zsu zst zti ztk ztr ztu zup zwe zwl zwo zto hset hcli hsrv hrt (by omega) hrun.1 hrun.2 hq hcl hky hpt with ⟨aX, aY⟩ | ⟨s', cr', al', ae', an', tr', hs', aX, aY⟩
    · have he : ∃ u' v' w', md_R now (nx + 1) dn B 0 0 w' u' v' ∧ (∀ P : SX → Prop, P u' → wpX_enqueue P (nI now, nI rc, nI ql, zse, zto, ztu, zwe, zsl, zpa, zbr, zup, zti, zfa, zcr, zru, zsu, zfi, zrp, zrs, zca, zre, ztk, zho, zhs, zst, zcl, zpt, zky, zwo, zra, zcm, zen, zat, zan, ztr, zae, zal, zqx) (nI nx)) ∧ (∀ P : SY → Prop, P v' → ∃ n16 : Nat, wY_place_16 P (nI q) (nI now) (nI rc) (nI (nx + 1)) (nI ql) n16 (nI ql) zwe zsl zpa zti zfa zcr zsu zsi zwl zbr zup zrp zrs zse zca zre ztk zho zhs zcl zpt zky zwo zra zst zat zan ztr zcm zen zae zal zqy zto ztu zso) := by
        by_cases hl : ql < 8
        · obtain ⟨u', v', w', hR', eX, eY⟩ := eq_lt8 now rc ql nx zae zal zan zat zbr zca zcl zcm zcr zen zfa zfi zho zhs zky zpa zpt zqx zqy zra zre zrp zrs zru zse zsi zsl zso zst zsu zti ztk ztr ztu zup zwe zwl zwo zto hset hcli hsrv hrt hfnd hreq hrun hqs htot hnx hq hqx hst hf hl
          exact ⟨u', v', w', hR', fun P hP => nm_r exq (br_t (nI_lt (b := 8) hl (by decide)) (eX P hP)), eY⟩
        · have e8 : ql = 8 := by have := hqs.2.2.1; omega
          subst e8
          exact eq_full now rc nx zae zal zan zat zbr zca zcl zcm zcr zen zfa zfi zho zhs zky zpa zpt zqx zqy zra zre zrp zrs zru zse zsi zsl zso zst zsu zti ztk ztr ztu zup zwe zwl zwo zto hset hcli hsrv hrt hfnd hreq hrun hqs htot hnx hq hqx hst hf
      obtain ⟨u', v', w', hR', eX, eY⟩ := he
      refine ⟨u', v', w', hR', fun P hP => hX _ (br_f hi1 (aX _ (br_t rfl (eX _ ?_)))), fun P hP => hY _ (br_t hsv ?_)⟩
      · obtain ⟨g_now, g_routeCount, g_queueLength, g_settings, g_totals, g_tookUnits, g_weightOf, g_slotsOf, g_paceOf, g_isBroken, g_isUp, g_shutTill, g_failures, g_credit, g_running, g_succeeded, g_findings, g_routePath, g_routeServers, g_capacityOf, g_refillOf, g_tokenCount, g_homeServer, g_homeSince, g_stateOf, g_clientOf, g_pathOf, g_keyOf, g_workOf, g_rankOf, g_cameAt, g_endedAt, g_serverOf, g_attempts, g_triedServers, g_attemptEnd, g_attemptTooLong, g_queue⟩ := u'
        exact hP
      · unfold wpY_place
        exact aY _ (br_t rfl (eY _ (md_ny hR' P hP)))
    · have hR : md_R now (nx + 1) dn B 0 0 ql (nI now, nI rc, nI ql, zse, zto, ztu, zwe, zsl, zpa, zbr, zup, zti, zfa, cr', upd zru s' (zru s' + 1), zsu, zfi, zrp, zrs, zca, zre, ztk, zho, zhs, upd zst q 1, zcl, zpt, zky, zwo, zra, zcm, zen, upd zat q (nI s'), an', tr', ae', al', zqx) (nI now, nI rc, nI (nx + 1), nI ql, zwe, zsl, zpa, zti, zfa, cr', zsu, zsi, zwl, zbr, zup, zrp, zrs, zse, zca, zre, ztk, zho, zhs, zcl, zpt, zky, zwo, zra, upd zst q 1, upd zat q (nI s'), an', tr', zcm, zen, ae', al', zqy, zto, ztu, zso) :=
        md_mk hset hcli hsrv hrt hfnd (iv_req_start hreq hs') (iv_run_start hrun hqn hq hs' hn1) (iv_q_nx (iv_q_st hqs hf') (by omega)) htot
      refine ⟨_, _, _, hR, fun P hP => hX _ (br_f hi1 (aX _ (br_f rd_1n0 hP))), fun P hP => hY _ (br_t hsv ?_)⟩
      unfold wpY_place
      exact aY _ (br_f rd_1n0 (md_ny hR P hP))
end
section
variable (now rc ql nx : Nat) (zae zal zan zat zbr zca zcl zcm zcr zen zfa zfi zho zhs zky zpa zpt zqx zqy zra zre zrp zrs zru zse zsi zsl zso zst zsu zsy zti ztk ztr ztu zup zwe zwl zwo : Nat → Int32) (zto : Nat → Int64)
theorem an_pair {dn B q c p key : Nat} {v4 v5 : Int32} {qn : Nat → Nat} (hset : iv_set zse) (hcli : iv_cli zre zho) (hsrv : iv_srv zwe zti) (hrt : iv_rt rc zrs) (hfnd : iv_fnd B zfi zsi zwl) (hreq : iv_req zcl zky zpt zst zat) (hrun : iv_run nx zst zat zru)
    (hqs : iv_q 0 0 ql nx qn zqx zqy zst) (htot : iv_tot nx dn zto) (hnx : nx < 2 ^ 30) (hq : q < 32) (hqx : nx % 32 = q) (hfree : nx < 32 ∨ 1 < zst q) (hc : c < 6) (hp : p < 4096) (hkey : key < 256) :
    ∃ r u' v' nx' w', nx' ≤ nx + 1 ∧ md_R now nx' dn B 0 0 w' u' v' ∧ (∀ P : Int32 → SX → Prop, P r u' → wX_arrive_94 P (nI c) (nI p) (nI key) v4 v5 (nI nx) (nI q) (nI now) (nI rc) (nI ql) zse zto ztu zwe zsl zpa zbr zup zti zfa zcr zru zsu zfi zrp zrs zca zre ztk zho zhs zst zcl zpt zky zwo zra zcm zen zat zan ztr zae zal zqx) ∧
    (∀ P : Int32 → SY → Prop, P r v' → wY_arrive_82 P (nI c) (nI p) (nI key) v4 v5 (nI q) (nI now) (nI rc) (nI nx) (nI ql) zwe zsl zpa zti zfa zcr zsu zsi zwl zbr zup zrp zrs zse zca zre ztk zho zhs zcl zpt zky zwo zra zst zat zan ztr zcm zen zae zal zqy zto ztu zso) := by
  have hqi : vp_in (nI q) 32 := vp_in_nI hq (by decide)
  have eq : (nI q).toNatClampNeg = q := nI_clamp (by omega)
  have hci : vp_in (nI c) 6 := vp_in_nI hc (by decide)
  have ec : (nI c).toNatClampNeg = c := nI_clamp (by omega)
  have hqn : q < nx + 1 := by have := Nat.mod_le nx 32; omega
  by_cases z : ztk c = 0
  · have hR : md_R now nx dn B 0 0 ql (nI now, nI rc, nI ql, zse, vp_updL zto 6 (zto 6 + 1), ztu, zwe, zsl, zpa, zbr, zup, zti, zfa, zcr, zru, zsu, zfi, zrp, zrs, zca, zre, ztk, zho, zhs, zst, zcl, zpt, zky, zwo, zra, zcm, zen, zat, zan, ztr, zae, zal, zqx) (nI now, nI rc, nI nx, nI ql, zwe, zsl, zpa, zti, zfa, zcr, zsu, zsi, zwl, zbr, zup, zrp, zrs, zse, zca, zre, ztk, zho, zhs, zcl, zpt, zky, zwo, zra, zst, zat, zan, ztr, zcm, zen, zae, zal, zqy, vp_updL zto 6 (zto 6 + 1), ztu, zso) := md_mk hset hcli hsrv hrt hfnd hreq hrun hqs (iv_tot_h htot (by decide) (by decide))
    refine ⟨-3, _, _, nx, _, by omega, hR, fun P hP => ⟨hci, ?_⟩, fun P hP => ⟨hci, ?_⟩⟩
    · rw [ec]; exact br_t z (nm_e hP)
    · rw [ec]; exact br_t z (nm_e hP)
  · have hn1 : ¬ zst q = 1 := by
      rcases hfree with h | h
      · have e : q = nx := by rw [← hqx]; exact Nat.mod_eq_of_lt h
        rw [hrun.1 q (by omega) hq]; decide
      · intro e; rw [e] at h; exact absurd h (by decide)
    have hf : ∀ j, j < ql → qn j % 32 ≠ q := by
      intro j hj
      obtain ⟨_, b, d⟩ := hqs.2.2.2.2.1 j (Or.inr ⟨Nat.zero_le _, hj⟩)
      rcases hfree with h | h
      · rw [← hqx]; omega
      · intro e
        rw [e] at d
        rw [d] at h
        exact absurd h (by decide)
    have hreq2 : iv_req (upd zcl q (nI c)) (upd zky q (nI key)) (upd zpt q (nI p)) (upd zst q 0) (upd zat q (-1)) := by
      intro j hj
      by_cases e : j = q
      · rw [e, pk_us, pk_us, pk_us, pk_us]
        exact ⟨⟨c, hc, rfl⟩, ⟨key, hkey, rfl⟩, ⟨p, hp, rfl⟩, fun x => absurd x (by decide)⟩
      · rw [pk_un e, pk_un e, pk_un e, pk_un e, pk_un e]
        exact hreq j hj
    have htot2 : iv_tot (nx + 1) dn (vp_updL zto 0 (zto 0 + 1)) := ⟨by rw [pk_uLs, htot.1, lN_1], by rw [pk_uLn (by decide)]; exact htot.2⟩
    obtain ⟨u', v', w', hR, hX, hY⟩ := ah_pair now rc ql nx zae zal (upd zan q 0) (upd zat q (-1)) zbr zca (upd zcl q (nI c)) (upd zcm q (nI now)) zcr (upd zen q (-1)) zfa zfi zho zhs (upd zky q (nI key)) zpa (upd zpt q (nI p)) zqx zqy (upd zra q v5) zre zrp zrs zru zse zsi zsl zso (upd zst q 0) zsu zti (upd ztk c (ztk c - 1)) (upd ztr q 0) ztu zup zwe zwl (upd zwo q v4) (vp_updL zto 0 (zto 0 + 1)) hset hcli hsrv hrt hfnd hreq2 (iv_run_enter hrun hqn hq hn1 (by decide)) (iv_q_st hqs (fun j hj => hf j (by rcases hj with hj | hj <;> omega))) htot2 hnx hq hqx pk_us hf hp
    have ent : (zto 0).toInt32 = nI nx := by rw [htot.1, lN_i]
    refine ⟨nI nx, u', v', nx + 1, w', by omega, hR, fun P hP => ⟨hci, ?_⟩, fun P hP => ⟨hci, ?_⟩⟩
    · rw [ec]
      exact br_f z ⟨hci, hci, nm_e (nm_e (et_X now rc ql zae zal zan zat zbr zca zcl zcm zcr zen zfa zfi zho zhs zky zpa zpt zqx zra zre zrp zrs zru zse zsl zst zsu zti (upd ztk c (ztk c - 1)) ztr ztu zup zwe zwo (vp_updL zto 0 (zto 0 + 1)) hq _ (hX P hP)))⟩
    · rw [ec, eq]
      exact br_f z ⟨hci, hci, nm_e ⟨hqi, nm_e ⟨hqi, nm_e ⟨hqi, nm_e ⟨hqi, nm_e ⟨hqi, nm_e ⟨hqi, nm_e ⟨hqi, nm_e ⟨hqi, nm_e ⟨hqi, nm_e ⟨hqi, nm_e ⟨hqi, nm_e (nm_e (nm_r (nI_1 nx) (hY P hP)))⟩⟩⟩⟩⟩⟩⟩⟩⟩⟩⟩⟩
end
end
section
/-! the public methods: arrive, and those that change a setting -/
theorem px_hi {n : Nat} {v : Int32} (hn : n + 1 < 2 ^ 31) (h : nI (n + 1) ≤ v) : nI n < v ∧ ¬ v < 0 := by
  rw [Int32.le_iff_toInt_le, nI_toInt hn] at h
  rw [Int32.lt_iff_toInt_lt, Int32.lt_iff_toInt_lt, nI_toInt (by omega), ms_i0]
  omega
theorem pu_arrive {k : Nat} {u : SX} {v : SY} (I : i_Rel k u v) (hk : k + 6 ≤ 3072) (v1 v2 v3 v4 v5 : Int32) : ∃ r u' v', i_Rel (k + 6) u' v' ∧ (∀ P : Int32 → SX → Prop, P r u' → wpX_arrive P u v1 v2 v3 v4 v5) ∧ (∀ P : Int32 → SY → Prop, P r v' → wpY_arrive P v v1 v2 v3 v4 v5) := by
  have I' := i_up I
  obtain ⟨now, nx, dn, w, h1, h2, h3, hR⟩ := I
  obtain ⟨rc, qn, zae, zal, zan, zat, zbr, zca, zcl, zcm, zcr, zen, zfa, zfi, zho, zhs, zky, zpa, zpt, zqx, zqy, zra, zre, zrp, zrs, zru, zse, zsi, zsl, zso, zst, zsu, zti, ztk, ztr, ztu, zup, zwe, zwl, zwo, zto, rfl, rfl, hset, hcli, hsrv, hrt, hfnd, hreq, hrun, hqs, htot⟩ := hR
  have c1 : (v1 < 0 ∨ nI 6 ≤ v1) ∨ ∃ c : Nat, c < 6 ∧ v1 = nI c := by
    rcases pk_ix v1 (n := 6) (by decide) with h | h | h
    · exact Or.inl (Or.inl h)
    · exact Or.inl (Or.inr h)
    · exact Or.inr h
  rcases c1 with h | ⟨c, hc, rfl⟩
  · refine ⟨-1, _, _, I', fun P hP => ?_, fun P hP => ?_⟩
    · unfold wpX_arrive; exact rd_co h (br_t rfl hP)
    · unfold wpY_arrive; exact rd_yo6 h (br_t rfl hP)
  have c2 : ((∀ P : Int32 → Prop, P 0 → wpX_isPath P v2) ∧ (∀ P : Int32 → Prop, P 0 → wpY_isPath P v2)) ∨ ∃ p : Nat, p < 4096 ∧ v2 = nI p ∧ (∀ P : Int32 → Prop, P 1 → wpX_isPath P v2) ∧ (∀ P : Int32 → Prop, P 1 → wpY_isPath P v2) := by
    rcases ip_pair v2 with ⟨p, hp, e, r, rfl | rfl, pX, pY⟩ | h
    · exact Or.inl ⟨pX, pY⟩
    · exact Or.inr ⟨p, hp, e, pX, pY⟩
    · exact Or.inl h
  rcases c2 with ⟨pX, pY⟩ | ⟨p, hp, rfl, pX, pY⟩
  · refine ⟨-1, _, _, I', fun P hP => ?_, fun P hP => ?_⟩
    · unfold wpX_arrive; exact rd_c1 hc (br_f rd_1n0 (pX _ (br_t rfl hP)))
    · unfold wpY_arrive; exact rd_y6 hc (br_f rd_1n0 (pY _ (br_t rfl hP)))
  rcases pk_ix v3 (n := 256) (by decide) with h | h | ⟨key, hkey, rfl⟩
  · refine ⟨-1, _, _, I', fun P hP => ?_, fun P hP => ?_⟩
    · unfold wpX_arrive; exact rd_c1 hc (br_f rd_1n0 (pX _ (br_f rd_1n0 (br_t h hP))))
    · unfold wpY_arrive; exact rd_y6 hc (br_f rd_1n0 (pY _ (br_f rd_1n0 (rd_y0 (Or.inl h) (br_t rfl hP)))))
  · obtain ⟨ha, hb⟩ := px_hi (n := 255) (by decide) h
    refine ⟨-1, _, _, I', fun P hP => ?_, fun P hP => ?_⟩
    · unfold wpX_arrive; exact rd_c1 hc (br_f rd_1n0 (pX _ (br_f rd_1n0 (br_f hb (br_t ha hP)))))
    · unfold wpY_arrive; exact rd_y6 hc (br_f rd_1n0 (pY _ (br_f rd_1n0 (rd_y0 (Or.inr ha) (br_t rfl hP)))))
  have k0 : ¬ nI key < 0 := nI_pos (by omega)
  have k1 : ¬ 255 < nI key := nI_nlt (a := 255) (by omega) (by decide)
  by_cases w0 : v4 < 1
  · refine ⟨-1, _, _, I', fun P hP => ?_, fun P hP => ?_⟩
    · unfold wpX_arrive; exact rd_c1 hc (br_f rd_1n0 (pX _ (br_f rd_1n0 (br_f k0 (br_f k1 (br_t w0 hP))))))
    · unfold wpY_arrive; exact rd_y6 hc (br_f rd_1n0 (pY _ (br_f rd_1n0 (rd_y1 k0 k1 (br_f rd_1n0 (rd_y0 (Or.inl w0) (br_t rfl hP)))))))
  by_cases w1 : 100 < v4
  · refine ⟨-1, _, _, I', fun P hP => ?_, fun P hP => ?_⟩
    · unfold wpX_arrive; exact rd_c1 hc (br_f rd_1n0 (pX _ (br_f rd_1n0 (br_f k0 (br_f k1 (br_f w0 (br_t w1 hP)))))))
    · unfold wpY_arrive; exact rd_y6 hc (br_f rd_1n0 (pY _ (br_f rd_1n0 (rd_y1 k0 k1 (br_f rd_1n0 (rd_y0 (Or.inr w1) (br_t rfl hP)))))))
  by_cases r0 : v5 < 0
  · refine ⟨-1, _, _, I', fun P hP => ?_, fun P hP => ?_⟩
    · unfold wpX_arrive; exact rd_c1 hc (br_f rd_1n0 (pX _ (br_f rd_1n0 (br_f k0 (br_f k1 (br_f w0 (br_f w1 (br_t r0 hP))))))))
    · unfold wpY_arrive; exact rd_y6 hc (br_f rd_1n0 (pY _ (br_f rd_1n0 (rd_y1 k0 k1 (br_f rd_1n0 (rd_y1 w0 w1 (br_f rd_1n0 (rd_y0 (Or.inl r0) (br_t rfl hP)))))))))
  by_cases r1 : v5 ≤ 3
  · have r1' : ¬ 3 < v5 := Int32.not_lt.mpr r1
    have hq : nx % 32 < 32 := Nat.mod_lt _ (by decide)
    have hqi : vp_in (nI (nx % 32)) 32 := vp_in_nI hq (by decide)
    have eq : (nI (nx % 32)).toNatClampNeg = nx % 32 := nI_clamp (by omega)
    have ent : (zto 0).toInt32 = nI nx := by rw [htot.1, lN_i]
    have esl : nI nx &&& 31 = nI (nx % 32) := ms_slot (by omega)
    have erm : nI nx - nI nx / 32 * 32 = nI (nx % 32) := ms_rem (by omega)
    have h0 : ¬ (32 : Int32) = 0 := by decide
    have x32 : zto 0 < 32 ↔ nx < 32 := by rw [htot.1]; exact pk_lLT (b := 32) (by omega) (by decide)
    have y31 : nI nx ≤ 31 ↔ nx < 32 := by rw [show (31 : Int32) = nI 31 from rfl, nI_leI (by omega) (by decide)]; omega
    by_cases hfull : nx < 32 ∨ 1 < zst (nx % 32)
    · obtain ⟨r, u', v', nx', w', hn', hR', aX, aY⟩ := an_pair now rc w nx zae zal zan zat zbr zca zcl zcm zcr zen zfa zfi zho zhs zky zpa zpt zqx zqy zra zre zrp zrs zru zse zsi zsl zso zst zsu zti ztk ztr ztu zup zwe zwl zwo zto (v4 := v4) (v5 := v5) hset hcli hsrv hrt hfnd hreq hrun hqs htot (by omega) hq rfl hfull hc hp hkey
      have hI : i_Rel (k + 6) u' v' := ⟨now, nx', dn, w', by omega, by omega, h3, hR'⟩
      refine ⟨r, u', v', hI, fun P hP => ?_, fun P hP => ?_⟩
      · unfold wpX_arrive
        refine rd_c1 hc (br_f rd_1n0 (pX _ (br_f rd_1n0 (br_f k0 (br_f k1 (br_f w0 (br_f w1 (br_f r0 (br_t r1 (nm_r ent (nm_r esl ?_)))))))))))
        by_cases z : nx < 32
        · exact br_t (x32.mpr z) (aX P hP)
        · refine br_f (fun y => z (x32.mp y)) ⟨hqi, ?_⟩
          rw [eq]
          exact br_t (hfull.resolve_left z) (aX P hP)
      · unfold wpY_arrive
        refine rd_y6 hc (br_f rd_1n0 (pY _ (br_f rd_1n0 (rd_y1 k0 k1 (br_f rd_1n0 (rd_y1 w0 w1 (br_f rd_1n0 (rd_y1 r0 r1' (br_f rd_1n0 ⟨h0, nm_r erm ?_⟩)))))))))
        by_cases z : nx < 32
        · exact br_t (y31.mpr z) (aY P hP)
        · refine br_f (fun y => z (y31.mp y)) ⟨hqi, ?_⟩
          rw [eq]
          exact br_t (Int32.not_lt.mp (fun y => absurd (hfull.resolve_left z) (Int32.not_lt.mpr (ms_lt2.mp y)))) (aY P hP)
    · have f1 : ¬ nx < 32 := fun z => hfull (Or.inl z)
      have f2 : ¬ 1 < zst (nx % 32) := fun z => hfull (Or.inr z)
      refine ⟨-2, _, _, I', fun P hP => ?_, fun P hP => ?_⟩
      · unfold wpX_arrive
        refine rd_c1 hc (br_f rd_1n0 (pX _ (br_f rd_1n0 (br_f k0 (br_f k1 (br_f w0 (br_f w1 (br_f r0 (br_t r1 (nm_r ent (nm_r esl (br_f (fun y => f1 (x32.mp y)) ⟨hqi, ?_⟩))))))))))))
        rw [eq]
        exact br_f f2 hP
      · unfold wpY_arrive
        refine rd_y6 hc (br_f rd_1n0 (pY _ (br_f rd_1n0 (rd_y1 k0 k1 (br_f rd_1n0 (rd_y1 w0 w1 (br_f rd_1n0 (rd_y1 r0 r1' (br_f rd_1n0 ⟨h0, nm_r erm (br_f (fun y => f1 (y31.mp y)) ⟨hqi, ?_⟩)⟩)))))))))
        rw [eq]
        exact br_f (Int32.not_le.mpr (ms_lt2.mpr (Int32.not_lt.mp f2))) hP
  · refine ⟨-1, _, _, I', fun P hP => ?_, fun P hP => ?_⟩
    · unfold wpX_arrive; exact rd_c1 hc (br_f rd_1n0 (pX _ (br_f rd_1n0 (br_f k0 (br_f k1 (br_f w0 (br_f w1 (br_f r0 (br_f r1 hP)))))))))
    · unfold wpY_arrive; exact rd_y6 hc (br_f rd_1n0 (pY _ (br_f rd_1n0 (rd_y1 k0 k1 (br_f rd_1n0 (rd_y1 w0 w1 (br_f rd_1n0 (rd_y0 (Or.inr (Int32.not_le.mp r1)) (br_t rfl hP)))))))))
theorem i_vc_arrive {k : Nat} {u : SX} {v : SY} (I : i_Rel k u v) (hk : k + 6 ≤ 3072) (v1 : Int32) (v2 : Int32) (v3 : Int32) (v4 : Int32) (v5 : Int32) : wpX_arrive (fun r u' => wpY_arrive (fun r' v' => r' = r ∧ i_Rel (k + 6) u' v') v v1 v2 v3 v4 v5) u v1 v2 v3 v4 v5 := by
  obtain ⟨r, u', v', hI, hX, hY⟩ := pu_arrive I hk v1 v2 v3 v4 v5
  exact hX _ (hY _ ⟨rfl, hI⟩)
end
section
/-! server, route, unroute, damage, set, limit -/
theorem px_6 (v : Int32) : (v < 0 ∨ nI 6 ≤ v) ∨ ∃ c : Nat, c < 6 ∧ v = nI c := by
  rcases pk_ix v (n := 6) (by decide) with h | h | h
  · exact Or.inl (Or.inl h)
  · exact Or.inl (Or.inr h)
  · exact Or.inr h
theorem pu_server {k : Nat} {u : SX} {v : SY} (I : i_Rel k u v) (v1 v2 v3 v4 : Int32) : ∃ r u' v', i_Rel (k + 6) u' v' ∧ (∀ P : Int32 → SX → Prop, P r u' → wpX_server P u v1 v2 v3 v4) ∧ (∀ P : Int32 → SY → Prop, P r v' → wpY_server P v v1 v2 v3 v4) := by
  have I' := i_up I
  obtain ⟨now, nx, dn, w, h1, h2, h3, hR⟩ := I
  obtain ⟨rc, qn, zae, zal, zan, zat, zbr, zca, zcl, zcm, zcr, zen, zfa, zfi, zho, zhs, zky, zpa, zpt, zqx, zqy, zra, zre, zrp, zrs, zru, zse, zsi, zsl, zso, zst, zsu, zti, ztk, ztr, ztu, zup, zwe, zwl, zwo, zto, rfl, rfl, hset, hcli, hsrv, hrt, hfnd, hreq, hrun, hqs, htot⟩ := hR
  rcases px_6 v1 with h | ⟨s, hs, rfl⟩
  · refine ⟨0, _, _, I', fun P hP => ?_, fun P hP => ?_⟩
    · unfold wpX_server; exact rd_so h (br_t rfl hP)
    · unfold wpY_server; exact rd_yo6 h (br_t rfl hP)
  rcases pk_ix v2 (n := 10) (by decide) with h | h | ⟨a, ha, rfl⟩
  · refine ⟨0, _, _, I', fun P hP => ?_, fun P hP => ?_⟩
    · unfold wpX_server; exact rd_s1 hs (br_f rd_1n0 (br_t h hP))
    · unfold wpY_server; exact rd_y6 hs (br_f rd_1n0 (rd_y0 (Or.inl h) (br_t rfl hP)))
  · obtain ⟨ha, hb⟩ := px_hi (n := 9) (by decide) h
    refine ⟨0, _, _, I', fun P hP => ?_, fun P hP => ?_⟩
    · unfold wpX_server; exact rd_s1 hs (br_f rd_1n0 (br_f hb (br_t ha hP)))
    · unfold wpY_server; exact rd_y6 hs (br_f rd_1n0 (rd_y0 (Or.inr ha) (br_t rfl hP)))
  have a0 : ¬ nI a < 0 := nI_pos (by omega)
  have a1 : ¬ 9 < nI a := nI_nlt (a := 9) (by omega) (by decide)
  by_cases b0 : v3 < 1
  · refine ⟨0, _, _, I', fun P hP => ?_, fun P hP => ?_⟩
    · unfold wpX_server; exact rd_s1 hs (br_f rd_1n0 (br_f a0 (br_f a1 (br_t b0 hP))))
    · unfold wpY_server; exact rd_y6 hs (br_f rd_1n0 (rd_y1 a0 a1 (br_f rd_1n0 (rd_y0 (Or.inl b0) (br_t rfl hP)))))
  by_cases b1 : 8 < v3
  · refine ⟨0, _, _, I', fun P hP => ?_, fun P hP => ?_⟩
    · unfold wpX_server; exact rd_s1 hs (br_f rd_1n0 (br_f a0 (br_f a1 (br_f b0 (br_t b1 hP)))))
    · unfold wpY_server; exact rd_y6 hs (br_f rd_1n0 (rd_y1 a0 a1 (br_f rd_1n0 (rd_y0 (Or.inr b1) (br_t rfl hP)))))
  by_cases c0 : v4 < 1
  · refine ⟨0, _, _, I', fun P hP => ?_, fun P hP => ?_⟩
    · unfold wpX_server; exact rd_s1 hs (br_f rd_1n0 (br_f a0 (br_f a1 (br_f b0 (br_f b1 (br_t c0 hP))))))
    · unfold wpY_server; exact rd_y6 hs (br_f rd_1n0 (rd_y1 a0 a1 (br_f rd_1n0 (rd_y1 b0 b1 (br_f rd_1n0 (rd_y0 (Or.inl c0) (br_t rfl hP)))))))
  by_cases c1 : v4 ≤ 10
  · have hsi : vp_in (nI s) 6 := vp_in_nI hs (by decide)
    have es : (nI s).toNatClampNeg = s := nI_clamp (by omega)
    have hR' : md_R now nx dn now 0 0 w (nI now, nI rc, nI w, zse, zto, ztu, upd zwe s (nI a), upd zsl s v3, upd zpa s v4, zbr, zup, zti, zfa, zcr, zru, zsu, zfi, zrp, zrs, zca, zre, ztk, zho, zhs, zst, zcl, zpt, zky, zwo, zra, zcm, zen, zat, zan, ztr, zae, zal, zqx) (nI now, nI rc, nI nx, nI w, upd zwe s (nI a), upd zsl s v3, upd zpa s v4, zti, zfa, zcr, zsu, zsi, zwl, zbr, zup, zrp, zrs, zse, zca, zre, ztk, zho, zhs, zcl, zpt, zky, zwo, zra, zst, zat, zan, ztr, zcm, zen, zae, zal, zqy, zto, ztu, zso) :=
      md_mk hset hcli (fun j hj => by
        by_cases e : j = s
        · rw [e, pk_us]; exact ⟨⟨a, ha, rfl⟩, (hsrv s hs).2⟩
        · rw [pk_un e]; exact hsrv j hj) hrt hfnd hreq hrun hqs htot
    refine ⟨1, _, _, ⟨now, nx, dn, w, by omega, by omega, h3, hR'⟩, fun P hP => ?_, fun P hP => ?_⟩
    · unfold wpX_server
      rw [es]
      exact rd_s1 hs (br_f rd_1n0 (br_f a0 (br_f a1 (br_f b0 (br_f b1 (br_f c0 (br_t c1 ⟨hsi, nm_e ⟨hsi, nm_e ⟨hsi, nm_e hP⟩⟩⟩)))))))
    · unfold wpY_server
      rw [es]
      exact rd_y6 hs (br_f rd_1n0 (rd_y1 a0 a1 (br_f rd_1n0 (rd_y1 b0 b1 (br_f rd_1n0 (rd_y1 c0 (Int32.not_lt.mpr c1) (br_f rd_1n0 ⟨hsi, nm_e ⟨hsi, nm_e ⟨hsi, nm_e hP⟩⟩⟩)))))))
  · refine ⟨0, _, _, I', fun P hP => ?_, fun P hP => ?_⟩
    · unfold wpX_server; exact rd_s1 hs (br_f rd_1n0 (br_f a0 (br_f a1 (br_f b0 (br_f b1 (br_f c0 (br_f c1 hP)))))))
    · unfold wpY_server; exact rd_y6 hs (br_f rd_1n0 (rd_y1 a0 a1 (br_f rd_1n0 (rd_y1 b0 b1 (br_f rd_1n0 (rd_y0 (Or.inr (Int32.not_le.mp c1)) (br_t rfl hP)))))))
theorem i_vc_server {k : Nat} {u : SX} {v : SY} (I : i_Rel k u v) (hk : k + 6 ≤ 3072) (v1 : Int32) (v2 : Int32) (v3 : Int32) (v4 : Int32) : wpX_server (fun r u' => wpY_server (fun r' v' => r' = r ∧ i_Rel (k + 6) u' v') v v1 v2 v3 v4) u v1 v2 v3 v4 := by
  obtain ⟨r, u', v', hI, hX, hY⟩ := pu_server I v1 v2 v3 v4
  exact hX _ (hY _ ⟨rfl, hI⟩)
section
variable (now rc ql nx : Nat) (zae zal zan zat zbr zca zcl zcm zcr zen zfa zfi zho zhs zky zpa zpt zqx zqy zra zre zrp zrs zru zse zsi zsl zso zst zsu zsy zti ztk ztr ztu zup zwe zwl zwo : Nat → Int32) (zto : Nat → Int64)
theorem f2_loop (hr : rc ≤ 12) (p : Int32) : ∀ d j : Nat, j + d = rc → ∃ r : Int32, (r = -1 ∨ ∃ i : Nat, i < rc ∧ r = nI i ∧ zrp i = p) ∧
    (∀ (P : Int32 → Prop) (n : Nat), d < n → P r → wX_findRoute_2 P p (nI now) (nI rc) (nI ql) zse zto ztu zwe zsl zpa zbr zup zti zfa zcr zru zsu zfi zrp zrs zca zre ztk zho zhs zst zcl zpt zky zwo zra zcm zen zat zan ztr zae zal zqx n (nI j)) ∧ (∀ (P : Int32 → Prop) (n : Nat), d < n → P r → wY_findRoute_2 P p (nI now) (nI rc) (nI nx) (nI ql) zwe zsl zpa zti zfa zcr zsu zsi zwl zbr zup zrp zrs zse zca zre ztk zho zhs zcl zpt zky zwo zra zsy zat zan ztr zcm zen zae zal zqy zto ztu zso n (nI j)) := by
  intro d
  induction d with
  | zero =>
    intro j hj
    have h : nI rc ≤ nI j := nI_le (by omega) (by omega)
    exact ⟨-1, Or.inl rfl, fun P n hn hp => (by obtain ⟨m, rfl, hm_⟩ := fu_m hn; exact br_t h hp), fun P n hn hp => (by obtain ⟨m, rfl, hm_⟩ := fu_m hn; exact br_t h hp)⟩
  | succ d ih =>
    intro j hj
    have h : ¬ nI rc ≤ nI j := nI_ge (by omega) (by omega)
    have hi : vp_in (nI j) 12 := vp_in_nI (by omega) (by omega)
    by_cases z : zrp (nI j).toNatClampNeg = p
    · exact ⟨nI j, Or.inr ⟨j, by omega, rfl, by rw [nI_clamp (by omega)] at z; exact z⟩, fun P n hn hp => (by obtain ⟨m, rfl, hm_⟩ := fu_m hn; exact br_f h ⟨hi, br_t z hp⟩), fun P n hn hp => (by obtain ⟨m, rfl, hm_⟩ := fu_m hn; exact br_f h ⟨hi, br_t z hp⟩)⟩
    · obtain ⟨r, h0, hX, hY⟩ := ih (j + 1) (by omega)
      exact ⟨r, h0, fun P n hn hp => (by obtain ⟨m, rfl, hm⟩ := fu_m hn; exact br_f h ⟨hi, br_f z (nm_r (nI_1 j) (hX P m (by omega) hp))⟩), fun P n hn hp => (by obtain ⟨m, rfl, hm⟩ := fu_m hn; exact br_f h ⟨hi, br_f z (nm_r (nI_1 j) (hY P m (by omega) hp))⟩)⟩
theorem f2_pair (hr : rc ≤ 12) (p : Int32) : ∃ r : Int32, (r = -1 ∨ ∃ i : Nat, i < rc ∧ r = nI i ∧ zrp i = p) ∧
    (∀ P : Int32 → Prop, P r → wpX_findRoute P (nI now, nI rc, nI ql, zse, zto, ztu, zwe, zsl, zpa, zbr, zup, zti, zfa, zcr, zru, zsu, zfi, zrp, zrs, zca, zre, ztk, zho, zhs, zst, zcl, zpt, zky, zwo, zra, zcm, zen, zat, zan, ztr, zae, zal, zqx) p) ∧ (∀ P : Int32 → Prop, P r → wpY_findRoute P (nI now, nI rc, nI nx, nI ql, zwe, zsl, zpa, zti, zfa, zcr, zsu, zsi, zwl, zbr, zup, zrp, zrs, zse, zca, zre, ztk, zho, zhs, zcl, zpt, zky, zwo, zra, zsy, zat, zan, ztr, zcm, zen, zae, zal, zqy, zto, ztu, zso) p) := by
  obtain ⟨r, h0, hX, hY⟩ := f2_loop now rc ql nx zae zal zan zat zbr zca zcl zcm zcr zen zfa zfi zho zhs zky zpa zpt zqx zqy zra zre zrp zrs zru zse zsi zsl zso zst zsu zsy zti ztk ztr ztu zup zwe zwl zwo zto hr p rc 0 (by omega)
  exact ⟨r, h0, fun P hp => ⟨rc + 1, hX P _ (by omega) hp⟩, fun P hp => ⟨rc + 1, hY P _ (by omega) hp⟩⟩
end
theorem ud_id {f : Nat → Int32} {k : Nat} {x : Int32} (h : f k = x) : upd f k x = f := by rw [← h]; exact ud_same
theorem pu_route {k : Nat} {u : SX} {v : SY} (I : i_Rel k u v) (v1 v2 : Int32) : ∃ r u' v', i_Rel (k + 6) u' v' ∧ (∀ P : Int32 → SX → Prop, P r u' → wpX_route P u v1 v2) ∧ (∀ P : Int32 → SY → Prop, P r v' → wpY_route P v v1 v2) := by
  have I' := i_up I
  obtain ⟨now, nx, dn, w, h1, h2, h3, hR⟩ := I
  obtain ⟨rc, qn, zae, zal, zan, zat, zbr, zca, zcl, zcm, zcr, zen, zfa, zfi, zho, zhs, zky, zpa, zpt, zqx, zqy, zra, zre, zrp, zrs, zru, zse, zsi, zsl, zso, zst, zsu, zti, ztk, ztr, ztu, zup, zwe, zwl, zwo, zto, rfl, rfl, hset, hcli, hsrv, hrt, hfnd, hreq, hrun, hqs, htot⟩ := hR
  have hr12 : rc ≤ 12 := hrt.1
  have c2 : ((∀ P : Int32 → Prop, P 0 → wpX_isPath P v1) ∧ (∀ P : Int32 → Prop, P 0 → wpY_isPath P v1)) ∨ ∃ p : Nat, p < 4096 ∧ v1 = nI p ∧ (∀ P : Int32 → Prop, P 1 → wpX_isPath P v1) ∧ (∀ P : Int32 → Prop, P 1 → wpY_isPath P v1) := by
    rcases ip_pair v1 with ⟨p, hp, e, r, rfl | rfl, pX, pY⟩ | h
    · exact Or.inl ⟨pX, pY⟩
    · exact Or.inr ⟨p, hp, e, pX, pY⟩
    · exact Or.inl h
  rcases c2 with ⟨pX, pY⟩ | ⟨p, hp, rfl, pX, pY⟩
  · refine ⟨-1, _, _, I', fun P hP => ?_, fun P hP => ?_⟩
    · unfold wpX_route; exact pX _ (br_t rfl hP)
    · unfold wpY_route; exact pY _ (br_t rfl hP)
  rcases pk_ix v2 (n := 64) (by decide) with h | h | ⟨a, ha, rfl⟩
  · refine ⟨-1, _, _, I', fun P hP => ?_, fun P hP => ?_⟩
    · unfold wpX_route; exact pX _ (br_f rd_1n0 (br_t h hP))
    · unfold wpY_route; exact pY _ (br_f rd_1n0 (rd_y0 (Or.inl h) (br_t rfl hP)))
  · obtain ⟨ha, hb⟩ := px_hi (n := 63) (by decide) h
    refine ⟨-1, _, _, I', fun P hP => ?_, fun P hP => ?_⟩
    · unfold wpX_route; exact pX _ (br_f rd_1n0 (br_f hb (br_f (Int32.not_lt.mpr h) hP)))
    · unfold wpY_route; exact pY _ (br_f rd_1n0 (rd_y0 (Or.inr ha) (br_t rfl hP)))
  have a0 : ¬ nI a < 0 := nI_pos (by omega)
  have a1 : nI a < 64 := nI_lt (b := 64) ha (by decide)
  have a2 : ¬ 63 < nI a := nI_nlt (a := 63) (by omega) (by decide)
  obtain ⟨r, hr, rX, rY⟩ := f2_pair now rc w nx zae zal zan zat zbr zca zcl zcm zcr zen zfa zfi zho zhs zky zpa zpt zqx zqy zra zre zrp zrs zru zse zsi zsl zso zst zsu zst zti ztk ztr ztu zup zwe zwl zwo zto hr12 (nI p)
  rcases hr with rfl | ⟨i, hi, rfl, hrp⟩
  · by_cases z : rc < 12
    · have hci : vp_in (nI rc) 12 := vp_in_nI z (by decide)
      have ec : (nI rc).toNatClampNeg = rc := nI_clamp (by omega)
      have z1 : nI rc < 12 := nI_lt (b := 12) z (by decide)
      have z2 : ¬ nI rc = 12 := fun y => by have := (nI_eq (b := 12) (by omega) (by decide)).mp y; omega
      have hR' : md_R now nx dn now 0 0 w (nI now, nI (rc + 1), nI w, zse, zto, ztu, zwe, zsl, zpa, zbr, zup, zti, zfa, zcr, zru, zsu, zfi, upd zrp rc (nI p), upd zrs rc (nI a), zca, zre, ztk, zho, zhs, zst, zcl, zpt, zky, zwo, zra, zcm, zen, zat, zan, ztr, zae, zal, zqx) (nI now, nI (rc + 1), nI nx, nI w, zwe, zsl, zpa, zti, zfa, zcr, zsu, zsi, zwl, zbr, zup, upd zrp rc (nI p), upd zrs rc (nI a), zse, zca, zre, ztk, zho, zhs, zcl, zpt, zky, zwo, zra, zst, zat, zan, ztr, zcm, zen, zae, zal, zqy, zto, ztu, zso) :=
        md_mk hset hcli hsrv ⟨by omega, fun j hj => by
          by_cases e : j = rc
          · rw [e, pk_us]; exact nI_pos' (by omega)
          · rw [pk_un e]; exact hrt.2 j (by omega)⟩ hfnd hreq hrun hqs htot
      have e1 : upd zrp (nI rc).toNatClampNeg (nI p) = upd zrp rc (nI p) := by rw [ec]
      have e2 : upd zrs (nI rc).toNatClampNeg (nI a) = upd zrs rc (nI a) := by rw [ec]
      refine ⟨nI (rc + 1), _, _, ⟨now, nx, dn, w, by omega, by omega, h3, hR'⟩, fun P hP => ?_, fun P hP => ?_⟩
      · unfold wpX_route
        exact pX _ (br_f rd_1n0 (br_f a0 (br_t a1 (rX _ (br_t rfl (br_t z1 ⟨hci, nm_r e1 (nm_r (nI_1 rc) ⟨hci, nm_r e2 hP⟩)⟩))))))
      · unfold wpY_route
        exact pY _ (br_f rd_1n0 (rd_y1 a0 a2 (br_f rd_1n0 (rY _ (br_f (by decide) (br_f z2 (br_f (by decide) (nm_r (nI_1 rc) ⟨hci, nm_r e1 ⟨hci, nm_r e2 hP⟩⟩))))))))
    · have e : rc = 12 := by omega
      subst e
      refine ⟨-2, _, _, I', fun P hP => ?_, fun P hP => ?_⟩
      · unfold wpX_route
        exact pX _ (br_f rd_1n0 (br_f a0 (br_t a1 (rX _ (br_t rfl (br_f (show ¬ nI 12 < 12 by decide) hP))))))
      · unfold wpY_route
        exact pY _ (br_f rd_1n0 (rd_y1 a0 a2 (br_f rd_1n0 (rY _ (br_f (by decide) (br_t rfl hP))))))
  · have hii : vp_in (nI i) 12 := vp_in_nI (by omega) (by decide)
    have ei : (nI i).toNatClampNeg = i := nI_clamp (by omega)
    have i0 : 0 ≤ nI i := nI_pos' (by omega)
    have hR' : md_R now nx dn now 0 0 w (nI now, nI rc, nI w, zse, zto, ztu, zwe, zsl, zpa, zbr, zup, zti, zfa, zcr, zru, zsu, zfi, zrp, upd zrs i (nI a), zca, zre, ztk, zho, zhs, zst, zcl, zpt, zky, zwo, zra, zcm, zen, zat, zan, ztr, zae, zal, zqx) (nI now, nI rc, nI nx, nI w, zwe, zsl, zpa, zti, zfa, zcr, zsu, zsi, zwl, zbr, zup, zrp, upd zrs i (nI a), zse, zca, zre, ztk, zho, zhs, zcl, zpt, zky, zwo, zra, zst, zat, zan, ztr, zcm, zen, zae, zal, zqy, zto, ztu, zso) :=
      md_mk hset hcli hsrv ⟨hr12, fun j hj => by
        by_cases e : j = i
        · rw [e, pk_us]; exact nI_pos' (by omega)
        · rw [pk_un e]; exact hrt.2 j hj⟩ hfnd hreq hrun hqs htot
    have e1 : upd zrp (nI i).toNatClampNeg (nI p) = zrp := by rw [ei]; exact ud_id hrp
    have e2 : upd zrs (nI i).toNatClampNeg (nI a) = upd zrs i (nI a) := by rw [ei]
    refine ⟨nI rc, _, _, ⟨now, nx, dn, w, by omega, by omega, h3, hR'⟩, fun P hP => ?_, fun P hP => ?_⟩
    · unfold wpX_route
      exact pX _ (br_f rd_1n0 (br_f a0 (br_t a1 (rX _ (br_f (ms_nI_m1 (by omega)) ⟨hii, nm_r e2 hP⟩)))))
    · unfold wpY_route
      exact pY _ (br_f rd_1n0 (rd_y1 a0 a2 (br_f rd_1n0 (rY _ (br_t i0 (br_t i0 ⟨hii, nm_r e1 ⟨hii, nm_r e2 hP⟩⟩))))))
theorem i_vc_route {k : Nat} {u : SX} {v : SY} (I : i_Rel k u v) (hk : k + 6 ≤ 3072) (v1 : Int32) (v2 : Int32) : wpX_route (fun r u' => wpY_route (fun r' v' => r' = r ∧ i_Rel (k + 6) u' v') v v1 v2) u v1 v2 := by
  obtain ⟨r, u', v', hI, hX, hY⟩ := pu_route I v1 v2
  exact hX _ (hY _ ⟨rfl, hI⟩)
theorem pu_unroute {k : Nat} {u : SX} {v : SY} (I : i_Rel k u v) (v1 : Int32) : ∃ r u' v', i_Rel (k + 6) u' v' ∧ (∀ P : Int32 → SX → Prop, P r u' → wpX_unroute P u v1) ∧ (∀ P : Int32 → SY → Prop, P r v' → wpY_unroute P v v1) := by
  have I' := i_up I
  obtain ⟨now, nx, dn, w, h1, h2, h3, hR⟩ := I
  obtain ⟨rc, qn, zae, zal, zan, zat, zbr, zca, zcl, zcm, zcr, zen, zfa, zfi, zho, zhs, zky, zpa, zpt, zqx, zqy, zra, zre, zrp, zrs, zru, zse, zsi, zsl, zso, zst, zsu, zti, ztk, ztr, ztu, zup, zwe, zwl, zwo, zto, rfl, rfl, hset, hcli, hsrv, hrt, hfnd, hreq, hrun, hqs, htot⟩ := hR
  have hr12 : rc ≤ 12 := hrt.1
  obtain ⟨r, hr, rX, rY⟩ := f2_pair now rc w nx zae zal zan zat zbr zca zcl zcm zcr zen zfa zfi zho zhs zky zpa zpt zqx zqy zra zre zrp zrs zru zse zsi zsl zso zst zsu zst zti ztk ztr ztu zup zwe zwl zwo zto hr12 v1
  rcases hr with rfl | ⟨i, hi, rfl, hrp⟩
  · refine ⟨0, _, _, I', fun P hP => ?_, fun P hP => ?_⟩
    · unfold wpX_unroute; exact rX _ (br_t rfl hP)
    · unfold wpY_unroute; exact rY _ (br_f (by decide) hP)
  · have hii : vp_in (nI i) 12 := vp_in_nI (by omega) (by decide)
    have ei : (nI i).toNatClampNeg = i := nI_clamp (by omega)
    have i0 : 0 ≤ nI i := nI_pos' (by omega)
    have e1 : nI rc - 1 = nI (rc - 1) := pk_sub (b := 1) (by omega)
    have hci : vp_in (nI (rc - 1)) 12 := vp_in_nI (by omega) (by decide)
    have ec : (nI (rc - 1)).toNatClampNeg = rc - 1 := nI_clamp (by omega)
    have e2 : upd zrp (nI i).toNatClampNeg (zrp (nI (rc - 1)).toNatClampNeg) = upd zrp i (zrp (rc - 1)) := by rw [ei, ec]
    have e3 : upd zrs (nI i).toNatClampNeg (zrs (nI (rc - 1)).toNatClampNeg) = upd zrs i (zrs (rc - 1)) := by rw [ei, ec]
    have hR' : md_R now nx dn now 0 0 w (nI now, nI (rc - 1), nI w, zse, zto, ztu, zwe, zsl, zpa, zbr, zup, zti, zfa, zcr, zru, zsu, zfi, upd zrp i (zrp (rc - 1)), upd zrs i (zrs (rc - 1)), zca, zre, ztk, zho, zhs, zst, zcl, zpt, zky, zwo, zra, zcm, zen, zat, zan, ztr, zae, zal, zqx) (nI now, nI (rc - 1), nI nx, nI w, zwe, zsl, zpa, zti, zfa, zcr, zsu, zsi, zwl, zbr, zup, upd zrp i (zrp (rc - 1)), upd zrs i (zrs (rc - 1)), zse, zca, zre, ztk, zho, zhs, zcl, zpt, zky, zwo, zra, zst, zat, zan, ztr, zcm, zen, zae, zal, zqy, zto, ztu, zso) :=
      md_mk hset hcli hsrv ⟨by omega, fun j hj => by
        by_cases e : j = i
        · rw [e, pk_us]; exact hrt.2 (rc - 1) (by omega)
        · rw [pk_un e]; exact hrt.2 j (by omega)⟩ hfnd hreq hrun hqs htot
    refine ⟨1, _, _, ⟨now, nx, dn, w, by omega, by omega, h3, hR'⟩, fun P hP => ?_, fun P hP => ?_⟩
    · unfold wpX_unroute
      exact rX _ (br_f (ms_nI_m1 (by omega)) (nm_r e1 ⟨hci, hii, nm_r e2 ⟨hci, hii, nm_r e3 hP⟩⟩))
    · unfold wpY_unroute
      exact rY _ (br_t i0 (nm_r e1 ⟨hci, hii, nm_r e2 ⟨hci, hii, nm_r e3 hP⟩⟩))
theorem i_vc_unroute {k : Nat} {u : SX} {v : SY} (I : i_Rel k u v) (hk : k + 6 ≤ 3072) (v1 : Int32) : wpX_unroute (fun r u' => wpY_unroute (fun r' v' => r' = r ∧ i_Rel (k + 6) u' v') v v1) u v1 := by
  obtain ⟨r, u', v', hI, hX, hY⟩ := pu_unroute I v1
  exact hX _ (hY _ ⟨rfl, hI⟩)
end
section
/-! damage, limit, set -/
theorem pu_damage {k : Nat} {u : SX} {v : SY} (I : i_Rel k u v) (v1 v2 : Int32) : ∃ r u' v', i_Rel (k + 6) u' v' ∧ (∀ P : Int32 → SX → Prop, P r u' → wpX_damage P u v1 v2) ∧ (∀ P : Int32 → SY → Prop, P r v' → wpY_damage P v v1 v2) := by
  have I' := i_up I
  obtain ⟨now, nx, dn, w, h1, h2, h3, hR⟩ := I
  obtain ⟨rc, qn, zae, zal, zan, zat, zbr, zca, zcl, zcm, zcr, zen, zfa, zfi, zho, zhs, zky, zpa, zpt, zqx, zqy, zra, zre, zrp, zrs, zru, zse, zsi, zsl, zso, zst, zsu, zti, ztk, ztr, ztu, zup, zwe, zwl, zwo, zto, rfl, rfl, hset, hcli, hsrv, hrt, hfnd, hreq, hrun, hqs, htot⟩ := hR
  rcases px_6 v1 with h | ⟨s, hs, rfl⟩
  · refine ⟨0, _, _, I', fun P hP => ?_, fun P hP => ?_⟩
    · unfold wpX_damage; exact rd_so h (br_t rfl hP)
    · unfold wpY_damage; exact rd_yo6 h (br_t rfl hP)
  · have hsi : vp_in (nI s) 6 := vp_in_nI hs (by decide)
    have hR' : md_R now nx dn now 0 0 w (nI now, nI rc, nI w, zse, zto, ztu, zwe, zsl, zpa, upd zbr (nI s).toNatClampNeg (vp_nar .boolean v2), zup, zti, zfa, zcr, zru, zsu, zfi, zrp, zrs, zca, zre, ztk, zho, zhs, zst, zcl, zpt, zky, zwo, zra, zcm, zen, zat, zan, ztr, zae, zal, zqx) (nI now, nI rc, nI nx, nI w, zwe, zsl, zpa, zti, zfa, zcr, zsu, zsi, zwl, upd zbr (nI s).toNatClampNeg (vp_nar .boolean v2), zup, zrp, zrs, zse, zca, zre, ztk, zho, zhs, zcl, zpt, zky, zwo, zra, zst, zat, zan, ztr, zcm, zen, zae, zal, zqy, zto, ztu, zso) := md_mk hset hcli hsrv hrt hfnd hreq hrun hqs htot
    refine ⟨1, _, _, ⟨now, nx, dn, w, by omega, by omega, h3, hR'⟩, fun P hP => ?_, fun P hP => ?_⟩
    · unfold wpX_damage; exact rd_s1 hs (br_f rd_1n0 ⟨hsi, nm_e hP⟩)
    · unfold wpY_damage; exact rd_y6 hs (br_f rd_1n0 ⟨hsi, nm_e hP⟩)
theorem i_vc_damage {k : Nat} {u : SX} {v : SY} (I : i_Rel k u v) (hk : k + 6 ≤ 3072) (v1 : Int32) (v2 : Int32) : wpX_damage (fun r u' => wpY_damage (fun r' v' => r' = r ∧ i_Rel (k + 6) u' v') v v1 (lw_bz v2)) u v1 (lw_bz v2) := by
  obtain ⟨r, u', v', hI, hX, hY⟩ := pu_damage I v1 (lw_bz v2)
  exact hX _ (hY _ ⟨rfl, hI⟩)
theorem pu_limit {k : Nat} {u : SX} {v : SY} (I : i_Rel k u v) (v1 v2 v3 : Int32) : ∃ r u' v', i_Rel (k + 6) u' v' ∧ (∀ P : Int32 → SX → Prop, P r u' → wpX_limit P u v1 v2 v3) ∧ (∀ P : Int32 → SY → Prop, P r v' → wpY_limit P v v1 v2 v3) := by
  have I' := i_up I
  obtain ⟨now, nx, dn, w, h1, h2, h3, hR⟩ := I
  obtain ⟨rc, qn, zae, zal, zan, zat, zbr, zca, zcl, zcm, zcr, zen, zfa, zfi, zho, zhs, zky, zpa, zpt, zqx, zqy, zra, zre, zrp, zrs, zru, zse, zsi, zsl, zso, zst, zsu, zti, ztk, ztr, ztu, zup, zwe, zwl, zwo, zto, rfl, rfl, hset, hcli, hsrv, hrt, hfnd, hreq, hrun, hqs, htot⟩ := hR
  rcases px_6 v1 with h | ⟨s, hs, rfl⟩
  · refine ⟨0, _, _, I', fun P hP => ?_, fun P hP => ?_⟩
    · unfold wpX_limit; exact rd_co h (br_t rfl hP)
    · unfold wpY_limit; exact rd_yo6 h (br_t rfl hP)
  by_cases a0 : v2 < 0
  · refine ⟨0, _, _, I', fun P hP => ?_, fun P hP => ?_⟩
    · unfold wpX_limit; exact rd_c1 hs (br_f rd_1n0 (br_t a0 hP))
    · unfold wpY_limit; exact rd_y6 hs (br_f rd_1n0 (rd_y0 (Or.inl a0) (br_t rfl hP)))
  by_cases a1 : 20 < v2
  · refine ⟨0, _, _, I', fun P hP => ?_, fun P hP => ?_⟩
    · unfold wpX_limit; exact rd_c1 hs (br_f rd_1n0 (br_f a0 (br_t a1 hP)))
    · unfold wpY_limit; exact rd_y6 hs (br_f rd_1n0 (rd_y0 (Or.inr a1) (br_t rfl hP)))
  by_cases b0 : v3 < 1
  · refine ⟨0, _, _, I', fun P hP => ?_, fun P hP => ?_⟩
    · unfold wpX_limit; exact rd_c1 hs (br_f rd_1n0 (br_f a0 (br_f a1 (br_t b0 hP))))
    · unfold wpY_limit; exact rd_y6 hs (br_f rd_1n0 (rd_y1 a0 a1 (br_f rd_1n0 (rd_y0 (Or.inl b0) (br_t rfl hP)))))
  by_cases b1 : v3 ≤ 100
  · have hsi : vp_in (nI s) 6 := vp_in_nI hs (by decide)
    have es : (nI s).toNatClampNeg = s := nI_clamp (by omega)
    have n0 : ¬ v3 = 0 := fun e => b0 (by rw [e]; decide)
    have hR' : md_R now nx dn now 0 0 w (nI now, nI rc, nI w, zse, zto, ztu, zwe, zsl, zpa, zbr, zup, zti, zfa, zcr, zru, zsu, zfi, zrp, zrs, upd zca s v2, upd zre s v3, upd ztk s v2, zho, zhs, zst, zcl, zpt, zky, zwo, zra, zcm, zen, zat, zan, ztr, zae, zal, zqx) (nI now, nI rc, nI nx, nI w, zwe, zsl, zpa, zti, zfa, zcr, zsu, zsi, zwl, zbr, zup, zrp, zrs, zse, upd zca s v2, upd zre s v3, upd ztk s v2, zho, zhs, zcl, zpt, zky, zwo, zra, zst, zat, zan, ztr, zcm, zen, zae, zal, zqy, zto, ztu, zso) :=
      md_mk hset (fun j hj => by
        by_cases e : j = s
        · rw [e, pk_us]; exact ⟨n0, (hcli s hs).2⟩
        · rw [pk_un e]; exact hcli j hj) hsrv hrt hfnd hreq hrun hqs htot
    refine ⟨1, _, _, ⟨now, nx, dn, w, by omega, by omega, h3, hR'⟩, fun P hP => ?_, fun P hP => ?_⟩
    · unfold wpX_limit
      rw [es]
      exact rd_c1 hs (br_f rd_1n0 (br_f a0 (br_f a1 (br_f b0 (br_t b1 ⟨hsi, nm_e ⟨hsi, nm_e ⟨hsi, nm_e hP⟩⟩⟩)))))
    · unfold wpY_limit
      rw [es]
      exact rd_y6 hs (br_f rd_1n0 (rd_y1 a0 a1 (br_f rd_1n0 (rd_y1 b0 (Int32.not_lt.mpr b1) (br_f rd_1n0 ⟨hsi, nm_e ⟨hsi, nm_e ⟨hsi, nm_e hP⟩⟩⟩)))))
  · refine ⟨0, _, _, I', fun P hP => ?_, fun P hP => ?_⟩
    · unfold wpX_limit; exact rd_c1 hs (br_f rd_1n0 (br_f a0 (br_f a1 (br_f b0 (br_f b1 hP)))))
    · unfold wpY_limit; exact rd_y6 hs (br_f rd_1n0 (rd_y1 a0 a1 (br_f rd_1n0 (rd_y0 (Or.inr (Int32.not_le.mp b1)) (br_t rfl hP)))))
theorem i_vc_limit {k : Nat} {u : SX} {v : SY} (I : i_Rel k u v) (hk : k + 6 ≤ 3072) (v1 : Int32) (v2 : Int32) (v3 : Int32) : wpX_limit (fun r u' => wpY_limit (fun r' v' => r' = r ∧ i_Rel (k + 6) u' v') v v1 v2 v3) u v1 v2 v3 := by
  obtain ⟨r, u', v', hI, hX, hY⟩ := pu_limit I v1 v2 v3
  exact hX _ (hY _ ⟨rfl, hI⟩)
def st_lo (j : Nat) : Int32 := match j with
  | 0 => 0
  | 1 => 1
  | 2 => 0
  | 3 => 1
  | 4 => 1
  | 5 => 1
  | _ => 0
def st_hi (j : Nat) : Int32 := match j with
  | 0 => 2
  | 1 => 1000
  | 2 => 3
  | 3 => 1000
  | 4 => 100
  | 5 => 1000
  | _ => 1000
theorem st_X {j : Nat} (hj : j < 7) (P : Int32 → Int32 → Prop) (hP : P (st_lo j) (st_hi j)) : wpX_leastValue (fun a => wpX_greatestValue (fun b => P a b) (nI j)) (nI j) := by
  match j, hj with
  | 0, _ => exact br_t rfl (br_f (by decide) (br_f (by decide) (br_t rfl hP)))
  | 1, _ => exact br_f (by decide) (br_f (by decide) (br_f (by decide) (br_f (by decide) (br_f (by decide) (br_f (by decide) (br_t rfl hP))))))
  | 2, _ => exact br_f (by decide) (br_t rfl (br_f (by decide) (br_f (by decide) (br_f (by decide) (br_f (by decide) (br_t rfl hP))))))
  | 3, _ => exact br_f (by decide) (br_f (by decide) (br_f (by decide) (br_f (by decide) (br_f (by decide) (br_f (by decide) (br_f (by decide) (br_f (by decide) (br_t rfl hP))))))))
  | 4, _ => exact br_f (by decide) (br_f (by decide) (br_f (by decide) (br_f (by decide) (br_f (by decide) (br_f (by decide) (br_f (by decide) (br_f (by decide) (br_f (by decide) (br_t rfl hP)))))))))
  | 5, _ => exact br_f (by decide) (br_f (by decide) (br_f (by decide) (br_f (by decide) (br_t (by decide) hP))))
  | 6, _ => exact br_f (by decide) (br_f (by decide) (br_t rfl (br_f (by decide) (br_t (by decide) hP))))
section
variable (now rc ql nx : Nat) (zae zal zan zat zbr zca zcl zcm zcr zen zfa zfi zho zhs zky zpa zpt zqx zqy zra zre zrp zrs zru zse zsi zsl zso zst zsu zsy zti ztk ztr ztu zup zwe zwl zwo : Nat → Int32) (zto : Nat → Int64)
theorem st_Y {j : Nat} (hj : j < 7) (v2 : Int32) (P : Int32 → SY → Prop) (hP : wpY_in (fun r => wY_set_67 P (nI j) v2 r (nI now) (nI rc) (nI nx) (nI ql) zwe zsl zpa zti zfa zcr zsu zsi zwl zbr zup zrp zrs zse zca zre ztk zho zhs zcl zpt zky zwo zra zsy zat zan ztr zcm zen zae zal zqy zto ztu zso) v2 (st_lo j) (st_hi j)) : wpY_set P (nI now, nI rc, nI nx, nI ql, zwe, zsl, zpa, zti, zfa, zcr, zsu, zsi, zwl, zbr, zup, zrp, zrs, zse, zca, zre, ztk, zho, zhs, zcl, zpt, zky, zwo, zra, zsy, zat, zan, ztr, zcm, zen, zae, zal, zqy, zto, ztu, zso) (nI j) v2 := by
  match j, hj with
  | 0, _ => exact br_t rfl hP
  | 1, _ => exact br_f (by decide) (br_f (by decide) (br_f (by decide) (br_f (by decide) (hP))))
  | 2, _ => exact br_f (by decide) (br_t rfl hP)
  | 3, _ => exact br_f (by decide) (br_f (by decide) (br_f (by decide) (br_f (by decide) (hP))))
  | 4, _ => exact br_f (by decide) (br_f (by decide) (br_t rfl hP))
  | 5, _ => exact br_f (by decide) (br_f (by decide) (br_f (by decide) (br_f (by decide) (hP))))
  | 6, _ => exact br_f (by decide) (br_f (by decide) (br_f (by decide) (br_t rfl hP)))
end
theorem st_inv {se : Nat → Int32} {j : Nat} {v : Int32} (hj : j < 7) (h : iv_set se) (h1 : ¬ v < st_lo j) (h2 : v ≤ st_hi j) : iv_set (upd se j v) := by
  obtain ⟨a, b, r, hr, c⟩ := h
  match j, hj with
  | 0, _ => exact ⟨by rw [pk_un (by decide)]; exact a, by rw [pk_un (by decide)]; exact b, r, hr, by rw [pk_un (by decide)]; exact c⟩
  | 1, _ => exact ⟨by rw [pk_un (by decide)]; exact a, by rw [pk_un (by decide)]; exact b, r, hr, by rw [pk_un (by decide)]; exact c⟩
  | 2, _ => exact ⟨by rw [pk_un (by decide)]; exact a, by rw [pk_un (by decide)]; exact b, r, hr, by rw [pk_un (by decide)]; exact c⟩
  | 3, _ =>
    refine ⟨by rw [pk_un (by decide)]; exact a, by rw [pk_un (by decide)]; exact b, ?_⟩
    obtain ⟨x, hx, e⟩ := nI_of2 (x := v) (M := 1000) (n := 1000) (by decide) (fun z => h1 (Int32.lt_trans z (by decide))) h2
    exact ⟨x, hx, by rw [pk_us]; exact e⟩
  | 4, _ => exact ⟨by rw [pk_us]; exact fun e => h1 (by rw [e]; decide), by rw [pk_un (by decide)]; exact b, r, hr, by rw [pk_un (by decide)]; exact c⟩
  | 5, _ => exact ⟨by rw [pk_un (by decide)]; exact a, by rw [pk_un (by decide)]; exact b, r, hr, by rw [pk_un (by decide)]; exact c⟩
  | 6, _ => exact ⟨by rw [pk_un (by decide)]; exact a, by rw [pk_us]; exact Int32.not_lt.mp h1, r, hr, by rw [pk_un (by decide)]; exact c⟩
theorem pu_set {k : Nat} {u : SX} {v : SY} (I : i_Rel k u v) (v1 v2 : Int32) : ∃ r u' v', i_Rel (k + 6) u' v' ∧ (∀ P : Int32 → SX → Prop, P r u' → wpX_set P u v1 v2) ∧ (∀ P : Int32 → SY → Prop, P r v' → wpY_set P v v1 v2) := by
  have I' := i_up I
  obtain ⟨now, nx, dn, w, h1, h2, h3, hR⟩ := I
  obtain ⟨rc, qn, zae, zal, zan, zat, zbr, zca, zcl, zcm, zcr, zen, zfa, zfi, zho, zhs, zky, zpa, zpt, zqx, zqy, zra, zre, zrp, zrs, zru, zse, zsi, zsl, zso, zst, zsu, zti, ztk, ztr, ztu, zup, zwe, zwl, zwo, zto, rfl, rfl, hset, hcli, hsrv, hrt, hfnd, hreq, hrun, hqs, htot⟩ := hR
  have bad : ∀ P : Int32 → SY → Prop, P 0 (nI now, nI rc, nI nx, nI w, zwe, zsl, zpa, zti, zfa, zcr, zsu, zsi, zwl, zbr, zup, zrp, zrs, zse, zca, zre, ztk, zho, zhs, zcl, zpt, zky, zwo, zra, zst, zat, zan, ztr, zcm, zen, zae, zal, zqy, zto, ztu, zso) → (v1 < 0 ∨ 6 < v1) → wpY_set P (nI now, nI rc, nI nx, nI w, zwe, zsl, zpa, zti, zfa, zcr, zsu, zsi, zwl, zbr, zup, zrp, zrs, zse, zca, zre, ztk, zho, zhs, zcl, zpt, zky, zwo, zra, zst, zat, zan, ztr, zcm, zen, zae, zal, zqy, zto, ztu, zso) v1 v2 := by
    intro P hP hb
    have h67 : ∀ r, wY_set_67 P v1 v2 r (nI now) (nI rc) (nI nx) (nI w) zwe zsl zpa zti zfa zcr zsu zsi zwl zbr zup zrp zrs zse zca zre ztk zho zhs zcl zpt zky zwo zra zst zat zan ztr zcm zen zae zal zqy zto ztu zso := fun r => by unfold wY_set_67; exact rd_y0 hb (br_t rfl hP)
    have any : ∀ lo hi, wpY_in (fun r => wY_set_67 P v1 v2 r (nI now) (nI rc) (nI nx) (nI w) zwe zsl zpa zti zfa zcr zsu zsi zwl zbr zup zrp zrs zse zca zre ztk zho zhs zcl zpt zky zwo zra zst zat zan ztr zcm zen zae zal zqy zto ztu zso) v2 lo hi := fun lo hi => br_c (fun _ => h67 0) (fun _ => br_c (fun _ => h67 0) (fun _ => h67 1))
    exact br_c (fun _ => any _ _) (fun _ => br_c (fun _ => any _ _) (fun _ => br_c (fun _ => any _ _) (fun _ => br_c (fun _ => any _ _) (fun _ => any _ _))))
  rcases pk_ix v1 (n := 7) (by decide) with h | h | ⟨j, hj, rfl⟩
  · exact ⟨0, _, _, I', fun P hP => br_t h hP, fun P hP => bad P hP (Or.inl h)⟩
  · obtain ⟨ha, hb⟩ := px_hi (n := 6) (by decide) h
    exact ⟨0, _, _, I', fun P hP => br_f hb (br_f (Int32.not_lt.mpr h) hP), fun P hP => bad P hP (Or.inr ha)⟩
  have j0 : ¬ nI j < 0 := nI_pos (by omega)
  have j7 : nI j < 7 := nI_lt (b := 7) hj (by decide)
  have hji : vp_in (nI j) 7 := vp_in_nI hj (by decide)
  have ej : (nI j).toNatClampNeg = j := nI_clamp (by omega)
  have jy : ∀ (P : Int32 → Prop), P 1 → wpY_in P (nI j) 0 6 := fun P hP => rd_yn (a := 0) (b := 6) (by omega) (by omega) (by decide) hP
  by_cases a : v2 < st_lo j
  · refine ⟨0, _, _, I', fun P hP => br_f j0 (br_t j7 (st_X hj _ (br_t a hP))), fun P hP => st_Y now rc w nx zae zal zan zat zbr zca zcl zcm zcr zen zfa zho zhs zky zpa zpt zqy zra zre zrp zrs zse zsi zsl zso zsu zst zti ztk ztr ztu zup zwe zwl zwo zto hj v2 P (rd_y0 (Or.inl a) ?_)⟩
    unfold wY_set_67
    exact jy _ (br_f rd_1n0 (br_t rfl hP))
  by_cases b : v2 ≤ st_hi j
  · have hR' : md_R now nx dn now 0 0 w (nI now, nI rc, nI w, upd zse j v2, zto, ztu, zwe, zsl, zpa, zbr, zup, zti, zfa, zcr, zru, zsu, zfi, zrp, zrs, zca, zre, ztk, zho, zhs, zst, zcl, zpt, zky, zwo, zra, zcm, zen, zat, zan, ztr, zae, zal, zqx) (nI now, nI rc, nI nx, nI w, zwe, zsl, zpa, zti, zfa, zcr, zsu, zsi, zwl, zbr, zup, zrp, zrs, upd zse j v2, zca, zre, ztk, zho, zhs, zcl, zpt, zky, zwo, zra, zst, zat, zan, ztr, zcm, zen, zae, zal, zqy, zto, ztu, zso) := md_mk (st_inv hj hset a b) hcli hsrv hrt hfnd hreq hrun hqs htot
    have e : upd zse (nI j).toNatClampNeg v2 = upd zse j v2 := by rw [ej]
    refine ⟨1, _, _, ⟨now, nx, dn, w, by omega, by omega, h3, hR'⟩, fun P hP => br_f j0 (br_t j7 (st_X hj _ (br_f a (br_t b ⟨hji, nm_r e hP⟩)))), fun P hP => st_Y now rc w nx zae zal zan zat zbr zca zcl zcm zcr zen zfa zho zhs zky zpa zpt zqy zra zre zrp zrs zse zsi zsl zso zsu zst zti ztk ztr ztu zup zwe zwl zwo zto hj v2 P (rd_y1 a (Int32.not_lt.mpr b) ?_)⟩
    unfold wY_set_67
    exact jy _ (br_f rd_1n0 (br_f rd_1n0 ⟨hji, nm_r e hP⟩))
  · refine ⟨0, _, _, I', fun P hP => br_f j0 (br_t j7 (st_X hj _ (br_f a (br_f b hP)))), fun P hP => st_Y now rc w nx zae zal zan zat zbr zca zcl zcm zcr zen zfa zho zhs zky zpa zpt zqy zra zre zrp zrs zse zsi zsl zso zsu zst zti ztk ztr ztu zup zwe zwl zwo zto hj v2 P (rd_y0 (Or.inr (Int32.not_le.mp b)) ?_)⟩
    unfold wY_set_67
    exact jy _ (br_f rd_1n0 (br_t rfl hP))
theorem i_vc_set {k : Nat} {u : SX} {v : SY} (I : i_Rel k u v) (hk : k + 6 ≤ 3072) (v1 : Int32) (v2 : Int32) : wpX_set (fun r u' => wpY_set (fun r' v' => r' = r ∧ i_Rel (k + 6) u' v') v v1 v2) u v1 v2 := by
  obtain ⟨r, u', v', hI, hX, hY⟩ := pu_set I v1 v2
  exact hX _ (hY _ ⟨rfl, hI⟩)
end
section
/-! the methods that only ask, but took -/
theorem i_vc_time {k : Nat} {u : SX} {v : SY} (I : i_Rel k u v) (hk : k + 6 ≤ 3072) : wpX_time (fun r => wpY_time (fun r' => r' = r ∧ i_Rel (k + 6) u v) v) u := by
  have I' := i_up I
  obtain ⟨now, nx, dn, w, h1, h2, h3, hR⟩ := I
  obtain ⟨rc, qn, zae, zal, zan, zat, zbr, zca, zcl, zcm, zcr, zen, zfa, zfi, zho, zhs, zky, zpa, zpt, zqx, zqy, zra, zre, zrp, zrs, zru, zse, zsi, zsl, zso, zst, zsu, zti, ztk, ztr, ztu, zup, zwe, zwl, zwo, zto, rfl, rfl, hset, hcli, hsrv, hrt, hfnd, hreq, hrun, hqs, htot⟩ := hR
  exact ⟨rfl, I'⟩
section
variable (now rc ql nx : Nat) (zae zal zan zat zbr zca zcl zcm zcr zen zfa zfi zho zhs zky zpa zpt zqx zqy zra zre zrp zrs zru zse zsi zsl zso zst zsu zsy zti ztk ztr ztu zup zwe zwl zwo : Nat → Int32) (zto : Nat → Int64)
theorem kp_pair {dn : Nat} (hnx : nx < 2 ^ 30) (htot : iv_tot nx dn zto) (v : Int32) : ((∀ P : Int32 → Prop, P 0 → wpX_isKept P (nI now, nI rc, nI ql, zse, zto, ztu, zwe, zsl, zpa, zbr, zup, zti, zfa, zcr, zru, zsu, zfi, zrp, zrs, zca, zre, ztk, zho, zhs, zst, zcl, zpt, zky, zwo, zra, zcm, zen, zat, zan, ztr, zae, zal, zqx) v) ∧ (∀ P : Int32 → Prop, P 0 → wpY_isRequest P (nI now, nI rc, nI nx, nI ql, zwe, zsl, zpa, zti, zfa, zcr, zsu, zsi, zwl, zbr, zup, zrp, zrs, zse, zca, zre, ztk, zho, zhs, zcl, zpt, zky, zwo, zra, zsy, zat, zan, ztr, zcm, zen, zae, zal, zqy, zto, ztu, zso) v)) ∨
    ∃ j : Nat, j < nx ∧ v = nI j ∧ (∀ P : Int32 → Prop, P 1 → wpX_isKept P (nI now, nI rc, nI ql, zse, zto, ztu, zwe, zsl, zpa, zbr, zup, zti, zfa, zcr, zru, zsu, zfi, zrp, zrs, zca, zre, ztk, zho, zhs, zst, zcl, zpt, zky, zwo, zra, zcm, zen, zat, zan, ztr, zae, zal, zqx) v) ∧ (∀ P : Int32 → Prop, P 1 → wpY_isRequest P (nI now, nI rc, nI nx, nI ql, zwe, zsl, zpa, zti, zfa, zcr, zsu, zsi, zwl, zbr, zup, zrp, zrs, zse, zca, zre, ztk, zho, zhs, zcl, zpt, zky, zwo, zra, zsy, zat, zan, ztr, zcm, zen, zae, zal, zqy, zto, ztu, zso) v) := by
  by_cases h : v < 0
  · exact Or.inl ⟨fun P hP => br_t h hP, fun P hP => br_t h hP⟩
  · obtain ⟨j, hj, rfl⟩ := nI_of h
    have x1 : zto 0 ≤ (nI j).toInt64 ↔ nx ≤ j := by rw [htot.1, nI_l hj]; exact pk_lLE (by omega) (by omega)
    have y1 : nI nx ≤ nI j ↔ nx ≤ j := nI_leI (by omega) hj
    by_cases z : nx ≤ j
    · exact Or.inl ⟨fun P hP => br_f h (br_t (x1.mpr z) hP), fun P hP => br_f h (br_t (y1.mpr z) hP)⟩
    · have x2 : (nI j).toInt64 < zto 0 - 32 ↔ ¬ nx ≤ j + 32 := by rw [htot.1, ← ms_keptL hj (by omega)]; exact Int64.not_le.symm
      have y2 : nI j < nI nx - 32 ↔ ¬ nx ≤ j + 32 := by rw [← ms_keptI hj hnx]; exact Int32.not_le.symm
      by_cases y : nx ≤ j + 32
      · exact Or.inr ⟨j, by omega, rfl, fun P hP => br_f h (br_f (fun q => z (x1.mp q)) (br_f (fun q => (x2.mp q) y) hP)), fun P hP => br_f h (br_f (fun q => z (y1.mp q)) (br_f (fun q => (y2.mp q) y) hP))⟩
      · exact Or.inl ⟨fun P hP => br_f h (br_f (fun q => z (x1.mp q)) (br_t (x2.mpr y) hP)), fun P hP => br_f h (br_f (fun q => z (y1.mp q)) (br_t (y2.mpr y) hP))⟩
end
theorem pu_state {k : Nat} {u : SX} {v : SY} (I : i_Rel k u v) (hk : k + 6 ≤ 3072) (v1 : Int32) : ∃ r, (∀ P : Int32 → Prop, P r → wpX_state P u v1) ∧ (∀ P : Int32 → Prop, P r → wpY_state P v v1) := by
  obtain ⟨now, nx, dn, w, h1, h2, h3, hR⟩ := I
  obtain ⟨rc, qn, zae, zal, zan, zat, zbr, zca, zcl, zcm, zcr, zen, zfa, zfi, zho, zhs, zky, zpa, zpt, zqx, zqy, zra, zre, zrp, zrs, zru, zse, zsi, zsl, zso, zst, zsu, zti, ztk, ztr, ztu, zup, zwe, zwl, zwo, zto, rfl, rfl, hset, hcli, hsrv, hrt, hfnd, hreq, hrun, hqs, htot⟩ := hR
  rcases kp_pair now rc w nx zae zal zan zat zbr zca zcl zcm zcr zen zfa zfi zho zhs zky zpa zpt zqx zqy zra zre zrp zrs zru zse zsi zsl zso zst zsu zst zti ztk ztr ztu zup zwe zwl zwo zto (by omega) htot v1 with ⟨hX, hY⟩ | ⟨j, hj, rfl, hX, hY⟩
  · refine ⟨-1, fun P hP => ?_, fun P hP => ?_⟩
    · unfold wpX_state; exact hX _ (br_t rfl hP)
    · unfold wpY_state; exact hY _ (br_t rfl hP)
  · have e1 : nI j &&& 31 = nI (j % 32) := ms_slot (by omega)
    have e2 : nI j - nI j / 32 * 32 = nI (j % 32) := ms_rem (by omega)
    have hi : vp_in (nI (j % 32)) 32 := vp_in_nI (Nat.mod_lt _ (by decide)) (by decide)
    have h0 : ¬ (32 : Int32) = 0 := by decide
    refine ⟨zst (nI (j % 32)).toNatClampNeg, fun P hP => ?_, fun P hP => ?_⟩
    · unfold wpX_state
      rw [e1]
      exact hX _ (br_f rd_1n0 ⟨hi, hP⟩)
    · unfold wpY_state
      rw [e2]
      exact hY _ (br_f rd_1n0 ⟨h0, hi, hP⟩)
theorem i_vc_state {k : Nat} {u : SX} {v : SY} (I : i_Rel k u v) (hk : k + 6 ≤ 3072) (v1 : Int32) : wpX_state (fun r => wpY_state (fun r' => r' = r ∧ i_Rel (k + 6) u v) v v1) u v1 := by
  obtain ⟨r, hX, hY⟩ := pu_state I hk v1
  exact hX _ (hY _ ⟨rfl, i_up I⟩)
theorem pu_about {k : Nat} {u : SX} {v : SY} (I : i_Rel k u v) (hk : k + 6 ≤ 3072) (v1 v2 : Int32) : ∃ r, (∀ P : Int32 → Prop, P r → wpX_about P u v1 v2) ∧ (∀ P : Int32 → Prop, P r → wpY_about P v v1 v2) := by
  obtain ⟨now, nx, dn, w, h1, h2, h3, hR⟩ := I
  obtain ⟨rc, qn, zae, zal, zan, zat, zbr, zca, zcl, zcm, zcr, zen, zfa, zfi, zho, zhs, zky, zpa, zpt, zqx, zqy, zra, zre, zrp, zrs, zru, zse, zsi, zsl, zso, zst, zsu, zti, ztk, ztr, ztu, zup, zwe, zwl, zwo, zto, rfl, rfl, hset, hcli, hsrv, hrt, hfnd, hreq, hrun, hqs, htot⟩ := hR
  rcases kp_pair now rc w nx zae zal zan zat zbr zca zcl zcm zcr zen zfa zfi zho zhs zky zpa zpt zqx zqy zra zre zrp zrs zru zse zsi zsl zso zst zsu zst zti ztk ztr ztu zup zwe zwl zwo zto (by omega) htot v1 with ⟨hX, hY⟩ | ⟨j, hj, rfl, hX, hY⟩
  · refine ⟨-2, fun P hP => ?_, fun P hP => ?_⟩
    · unfold wpX_about; exact hX _ (br_t rfl hP)
    · unfold wpY_about; exact hY _ (br_t rfl hP)
  · have e1 : nI j &&& 31 = nI (j % 32) := ms_slot (by omega)
    have e2 : nI j - nI j / 32 * 32 = nI (j % 32) := ms_rem (by omega)
    have hi : vp_in (nI (j % 32)) 32 := vp_in_nI (Nat.mod_lt _ (by decide)) (by decide)
    have h0 : ¬ (32 : Int32) = 0 := by decide
    rcases pk_ix v2 (n := 4) (by decide) with h | h | ⟨q, hq, rfl⟩
    · refine ⟨-2, fun P hP => ?_, fun P hP => ?_⟩
      · unfold wpX_about; exact hX _ (br_f rd_1n0 (nm_e (br_t h hP)))
      · unfold wpY_about; exact hY _ (br_f rd_1n0 (rd_y0 (Or.inl h) (br_t rfl hP)))
    · obtain ⟨ha, hb⟩ := px_hi (n := 3) (by decide) h
      refine ⟨-2, fun P hP => ?_, fun P hP => ?_⟩
      · unfold wpX_about; exact hX _ (br_f rd_1n0 (nm_e (br_f hb (br_t ha hP))))
      · unfold wpY_about; exact hY _ (br_f rd_1n0 (rd_y0 (Or.inr ha) (br_t rfl hP)))
    · match q, hq with
      | 0, _ =>
        refine ⟨zat (nI (j % 32)).toNatClampNeg, fun P hP => ?_, fun P hP => ?_⟩
        · unfold wpX_about; exact hX _ (br_f rd_1n0 (nm_r e1 (br_f (by decide) (br_f (by decide) (br_t rfl ⟨hi, hP⟩)))))
        · unfold wpY_about; exact hY _ (br_f rd_1n0 (rd_y1 (by decide) (by decide) (br_f rd_1n0 ⟨h0, nm_r e2 (br_t rfl ⟨hi, hP⟩)⟩)))
      | 1, _ =>
        refine ⟨zan (nI (j % 32)).toNatClampNeg, fun P hP => ?_, fun P hP => ?_⟩
        · unfold wpX_about; exact hX _ (br_f rd_1n0 (nm_r e1 (br_f (by decide) (br_f (by decide) (br_f (by decide) (br_t rfl ⟨hi, hP⟩))))))
        · unfold wpY_about; exact hY _ (br_f rd_1n0 (rd_y1 (by decide) (by decide) (br_f rd_1n0 ⟨h0, nm_r e2 (br_f (by decide) (br_t rfl ⟨hi, hP⟩))⟩)))
      | 2, _ =>
        refine ⟨zcm (nI (j % 32)).toNatClampNeg, fun P hP => ?_, fun P hP => ?_⟩
        · unfold wpX_about; exact hX _ (br_f rd_1n0 (nm_r e1 (br_f (by decide) (br_f (by decide) (br_f (by decide) (br_f (by decide) (br_t rfl ⟨hi, hP⟩)))))))
        · unfold wpY_about; exact hY _ (br_f rd_1n0 (rd_y1 (by decide) (by decide) (br_f rd_1n0 ⟨h0, nm_r e2 (br_f (by decide) (br_f (by decide) (br_t rfl ⟨hi, hP⟩)))⟩)))
      | 3, _ =>
        refine ⟨zen (nI (j % 32)).toNatClampNeg, fun P hP => ?_, fun P hP => ?_⟩
        · unfold wpX_about; exact hX _ (br_f rd_1n0 (nm_r e1 (br_f (by decide) (br_f (by decide) (br_f (by decide) (br_f (by decide) (br_f (by decide) (br_t rfl ⟨hi, hP⟩))))))))
        · unfold wpY_about; exact hY _ (br_f rd_1n0 (rd_y1 (by decide) (by decide) (br_f rd_1n0 ⟨h0, nm_r e2 (br_f (by decide) (br_f (by decide) (br_f (by decide) ⟨hi, hP⟩)))⟩)))
theorem i_vc_about {k : Nat} {u : SX} {v : SY} (I : i_Rel k u v) (hk : k + 6 ≤ 3072) (v1 : Int32) (v2 : Int32) : wpX_about (fun r => wpY_about (fun r' => r' = r ∧ i_Rel (k + 6) u v) v v1 v2) u v1 v2 := by
  obtain ⟨r, hX, hY⟩ := pu_about I hk v1 v2
  exact hX _ (hY _ ⟨rfl, i_up I⟩)
theorem pu_at {k : Nat} {u : SX} {v : SY} (I : i_Rel k u v) (hk : k + 6 ≤ 3072) (v1 v2 : Int32) : ∃ r, (∀ P : Int32 → Prop, P r → wpX_at P u v1 v2) ∧ (∀ P : Int32 → Prop, P r → wpY_at P v v1 v2) := by
  obtain ⟨now, nx, dn, w, h1, h2, h3, hR⟩ := I
  obtain ⟨rc, qn, zae, zal, zan, zat, zbr, zca, zcl, zcm, zcr, zen, zfa, zfi, zho, zhs, zky, zpa, zpt, zqx, zqy, zra, zre, zrp, zrs, zru, zse, zsi, zsl, zso, zst, zsu, zti, ztk, ztr, ztu, zup, zwe, zwl, zwo, zto, rfl, rfl, hset, hcli, hsrv, hrt, hfnd, hreq, hrun, hqs, htot⟩ := hR
  rcases px_6 v1 with h | ⟨s, hs, rfl⟩
  · refine ⟨-1, fun P hP => ?_, fun P hP => ?_⟩
    · unfold wpX_at; exact rd_so h (br_t rfl hP)
    · unfold wpY_at; exact rd_yo6 h (br_t rfl hP)
  have hi : vp_in (nI s) 6 := vp_in_nI hs (by decide)
  have es : (nI s).toNatClampNeg = s := nI_clamp (by omega)
  rcases pk_ix v2 (n := 6) (by decide) with h | h | ⟨q, hq, rfl⟩
  · refine ⟨-1, fun P hP => ?_, fun P hP => ?_⟩
    · unfold wpX_at; exact rd_s1 hs (br_f rd_1n0 (br_t h hP))
    · unfold wpY_at; exact rd_y6 hs (br_f rd_1n0 (br_t h hP))
  · obtain ⟨ha, hb⟩ := px_hi (n := 5) (by decide) h
    refine ⟨-1, fun P hP => ?_, fun P hP => ?_⟩
    · unfold wpX_at; exact rd_s1 hs (br_f rd_1n0 (br_f hb (br_t ha hP)))
    · unfold wpY_at; exact rd_y6 hs (br_f rd_1n0 (br_f hb (br_t ha hP)))
  match q, hq with
  | 0, _ =>
    refine ⟨zru s, fun P hP => ?_, fun P hP => ?_⟩
    · unfold wpX_at
      rw [es]
      exact rd_s1 hs (br_f rd_1n0 (br_f (by decide) (br_f (by decide) (br_t rfl ⟨hi, hP⟩))))
    · unfold wpY_at
      exact rd_y6 hs (br_f rd_1n0 (br_f (by decide) (br_f (by decide) (br_t rfl (rn_run now rc w nx zae zal zan zat zbr zca zcl zcm zcr zen zfa zho zhs zky zpa zpt zqy zra zre zrp zrs zse zsi zsl zso zsu zst zti ztk ztr ztu zup zwe zwl zwo zto (by omega) hrun.1 (nI s) _ (by rw [← hrun.2 s hs]; exact hP))))))
  | 1, _ =>
    by_cases z : zup (nI s).toNatClampNeg = 0
    · refine ⟨0, fun P hP => ?_, fun P hP => ?_⟩
      · unfold wpX_at
        exact rd_s1 hs (br_f rd_1n0 (br_f (by decide) (br_f (by decide) (br_f (by decide) (br_t rfl ⟨hi, br_t z hP⟩)))))
      · unfold wpY_at
        exact rd_y6 hs (br_f rd_1n0 (br_f (by decide) (br_f (by decide) (br_f (by decide) (br_t rfl ⟨hi, br_t z hP⟩)))))
    · refine ⟨1, fun P hP => ?_, fun P hP => ?_⟩
      · unfold wpX_at
        exact rd_s1 hs (br_f rd_1n0 (br_f (by decide) (br_f (by decide) (br_f (by decide) (br_t rfl ⟨hi, br_f z hP⟩)))))
      · unfold wpY_at
        exact rd_y6 hs (br_f rd_1n0 (br_f (by decide) (br_f (by decide) (br_f (by decide) (br_t rfl ⟨hi, br_f z hP⟩)))))
  | 2, _ =>
    by_cases z : zti s = -1
    · have z0 : ¬ 0 ≤ zti s := by rw [z]; decide
      refine ⟨0, fun P hP => ?_, fun P hP => ?_⟩
      · unfold wpX_at
        rw [es]
        exact rd_s1 hs (br_f rd_1n0 (br_f (by decide) (br_f (by decide) (br_f (by decide) (br_f (by decide) (br_t rfl ⟨hi, br_t z hP⟩))))))
      · unfold wpY_at
        rw [es]
        exact rd_y6 hs (br_f rd_1n0 (br_f (by decide) (br_f (by decide) (br_f (by decide) (br_f (by decide) (br_t rfl ⟨hi, br_f z0 hP⟩))))))
    · have z0 : 0 ≤ zti s := (hsrv s hs).2.resolve_left z
      by_cases y : zti s ≤ nI now
      · refine ⟨2, fun P hP => ?_, fun P hP => ?_⟩
        · unfold wpX_at
          rw [es]
          exact rd_s1 hs (br_f rd_1n0 (br_f (by decide) (br_f (by decide) (br_f (by decide) (br_f (by decide) (br_t rfl ⟨hi, br_f z ⟨hi, br_t y hP⟩⟩))))))
        · unfold wpY_at
          rw [es]
          exact rd_y6 hs (br_f rd_1n0 (br_f (by decide) (br_f (by decide) (br_f (by decide) (br_f (by decide) (br_t rfl ⟨hi, br_t z0 ⟨hi, br_t y hP⟩⟩))))))
      · refine ⟨1, fun P hP => ?_, fun P hP => ?_⟩
        · unfold wpX_at
          rw [es]
          exact rd_s1 hs (br_f rd_1n0 (br_f (by decide) (br_f (by decide) (br_f (by decide) (br_f (by decide) (br_t rfl ⟨hi, br_f z ⟨hi, br_f y hP⟩⟩))))))
        · unfold wpY_at
          rw [es]
          exact rd_y6 hs (br_f rd_1n0 (br_f (by decide) (br_f (by decide) (br_f (by decide) (br_f (by decide) (br_t rfl ⟨hi, br_t z0 ⟨hi, br_f y hP⟩⟩))))))
  | 3, _ =>
    refine ⟨zfa (nI s).toNatClampNeg, fun P hP => ?_, fun P hP => ?_⟩
    · unfold wpX_at
      exact rd_s1 hs (br_f rd_1n0 (br_f (by decide) (br_f (by decide) (br_f (by decide) (br_f (by decide) (br_f (by decide) (br_t rfl ⟨hi, hP⟩)))))))
    · unfold wpY_at
      exact rd_y6 hs (br_f rd_1n0 (br_f (by decide) (br_f (by decide) (br_f (by decide) (br_f (by decide) (br_f (by decide) (br_t rfl ⟨hi, hP⟩)))))))
  | 4, _ =>
    refine ⟨zsu (nI s).toNatClampNeg, fun P hP => ?_, fun P hP => ?_⟩
    · unfold wpX_at
      exact rd_s1 hs (br_f rd_1n0 (br_f (by decide) (br_f (by decide) (br_f (by decide) (br_f (by decide) (br_f (by decide) (br_f (by decide) (br_t rfl ⟨hi, hP⟩))))))))
    · unfold wpY_at
      exact rd_y6 hs (br_f rd_1n0 (br_f (by decide) (br_f (by decide) (br_f (by decide) (br_f (by decide) (br_f (by decide) (br_f (by decide) (br_t rfl ⟨hi, hP⟩))))))))
  | 5, _ =>
    refine ⟨zcr (nI s).toNatClampNeg + 1000, fun P hP => ?_, fun P hP => ?_⟩
    · unfold wpX_at
      exact rd_s1 hs (br_f rd_1n0 (br_f (by decide) (br_f (by decide) (br_f (by decide) (br_f (by decide) (br_f (by decide) (br_f (by decide) (br_f (by decide) (br_t rfl ⟨hi, hP⟩)))))))))
    · unfold wpY_at
      exact rd_y6 hs (br_f rd_1n0 (br_f (by decide) (br_f (by decide) (br_f (by decide) (br_f (by decide) (br_f (by decide) (br_f (by decide) (br_f (by decide) (br_t rfl ⟨hi, hP⟩)))))))))
theorem i_vc_at {k : Nat} {u : SX} {v : SY} (I : i_Rel k u v) (hk : k + 6 ≤ 3072) (v1 : Int32) (v2 : Int32) : wpX_at (fun r => wpY_at (fun r' => r' = r ∧ i_Rel (k + 6) u v) v v1 v2) u v1 v2 := by
  obtain ⟨r, hX, hY⟩ := pu_at I hk v1 v2
  exact hX _ (hY _ ⟨rfl, i_up I⟩)
theorem pu_tokens {k : Nat} {u : SX} {v : SY} (I : i_Rel k u v) (v1 : Int32) : ∃ r, (∀ P : Int32 → Prop, P r → wpX_tokens P u v1) ∧ (∀ P : Int32 → Prop, P r → wpY_tokens P v v1) := by
  obtain ⟨now, nx, dn, w, h1, h2, h3, hR⟩ := I
  obtain ⟨rc, qn, zae, zal, zan, zat, zbr, zca, zcl, zcm, zcr, zen, zfa, zfi, zho, zhs, zky, zpa, zpt, zqx, zqy, zra, zre, zrp, zrs, zru, zse, zsi, zsl, zso, zst, zsu, zti, ztk, ztr, ztu, zup, zwe, zwl, zwo, zto, rfl, rfl, hset, hcli, hsrv, hrt, hfnd, hreq, hrun, hqs, htot⟩ := hR
  rcases px_6 v1 with h | ⟨s, hs, rfl⟩
  · refine ⟨-1, fun P hP => ?_, fun P hP => ?_⟩
    · unfold wpX_tokens; exact rd_co h (br_t rfl hP)
    · unfold wpY_tokens; exact rd_yo6 h (br_t rfl hP)
  · have hi : vp_in (nI s) 6 := vp_in_nI hs (by decide)
    refine ⟨ztk (nI s).toNatClampNeg, fun P hP => ?_, fun P hP => ?_⟩
    · unfold wpX_tokens; exact rd_c1 hs (br_f rd_1n0 ⟨hi, hP⟩)
    · unfold wpY_tokens; exact rd_y6 hs (br_f rd_1n0 ⟨hi, hP⟩)
theorem i_vc_tokens {k : Nat} {u : SX} {v : SY} (I : i_Rel k u v) (hk : k + 6 ≤ 3072) (v1 : Int32) : wpX_tokens (fun r => wpY_tokens (fun r' => r' = r ∧ i_Rel (k + 6) u v) v v1) u v1 := by
  obtain ⟨r, hX, hY⟩ := pu_tokens I v1
  exact hX _ (hY _ ⟨rfl, i_up I⟩)
theorem pu_home {k : Nat} {u : SX} {v : SY} (I : i_Rel k u v) (v1 : Int32) : ∃ r, (∀ P : Int32 → Prop, P r → wpX_home P u v1) ∧ (∀ P : Int32 → Prop, P r → wpY_home P v v1) := by
  obtain ⟨now, nx, dn, w, h1, h2, h3, hR⟩ := I
  obtain ⟨rc, qn, zae, zal, zan, zat, zbr, zca, zcl, zcm, zcr, zen, zfa, zfi, zho, zhs, zky, zpa, zpt, zqx, zqy, zra, zre, zrp, zrs, zru, zse, zsi, zsl, zso, zst, zsu, zti, ztk, ztr, ztu, zup, zwe, zwl, zwo, zto, rfl, rfl, hset, hcli, hsrv, hrt, hfnd, hreq, hrun, hqs, htot⟩ := hR
  rcases px_6 v1 with h | ⟨s, hs, rfl⟩
  · refine ⟨-1, fun P hP => ?_, fun P hP => ?_⟩
    · unfold wpX_home; exact rd_co h (br_t rfl hP)
    · unfold wpY_home; exact rd_yo6 h (br_t rfl hP)
  · have hi : vp_in (nI s) 6 := vp_in_nI hs (by decide)
    refine ⟨zho (nI s).toNatClampNeg, fun P hP => ?_, fun P hP => ?_⟩
    · unfold wpX_home; exact rd_c1 hs (br_f rd_1n0 ⟨hi, hP⟩)
    · unfold wpY_home; exact rd_y6 hs (br_f rd_1n0 ⟨hi, hP⟩)
theorem i_vc_home {k : Nat} {u : SX} {v : SY} (I : i_Rel k u v) (hk : k + 6 ≤ 3072) (v1 : Int32) : wpX_home (fun r => wpY_home (fun r' => r' = r ∧ i_Rel (k + 6) u v) v v1) u v1 := by
  obtain ⟨r, hX, hY⟩ := pu_home I v1
  exact hX _ (hY _ ⟨rfl, i_up I⟩)
theorem pu_total {k : Nat} {u : SX} {v : SY} (I : i_Rel k u v) (v1 : Int32) : ∃ r, (∀ P : Int64 → Prop, P r → wpX_total P u v1) ∧ (∀ P : Int64 → Prop, P r → wpY_total P v v1) := by
  obtain ⟨now, nx, dn, w, h1, h2, h3, hR⟩ := I
  obtain ⟨rc, qn, zae, zal, zan, zat, zbr, zca, zcl, zcm, zcr, zen, zfa, zfi, zho, zhs, zky, zpa, zpt, zqx, zqy, zra, zre, zrp, zrs, zru, zse, zsi, zsl, zso, zst, zsu, zti, ztk, ztr, ztu, zup, zwe, zwl, zwo, zto, rfl, rfl, hset, hcli, hsrv, hrt, hfnd, hreq, hrun, hqs, htot⟩ := hR
  rcases pk_ix v1 (n := 7) (by decide) with h | h | ⟨j, hj, rfl⟩
  · refine ⟨-1, fun P hP => br_t h hP, fun P hP => ?_⟩
    unfold wpY_total; exact rd_y0 (Or.inl h) (br_t rfl hP)
  · obtain ⟨ha, hb⟩ := px_hi (n := 6) (by decide) h
    refine ⟨-1, fun P hP => br_f hb (br_f (Int32.not_lt.mpr h) hP), fun P hP => ?_⟩
    unfold wpY_total; exact rd_y0 (Or.inr ha) (br_t rfl hP)
  · have hi : vp_in (nI j) 7 := vp_in_nI hj (by decide)
    refine ⟨zto (nI j).toNatClampNeg, fun P hP => br_f (nI_pos (by omega)) (br_t (nI_lt (b := 7) hj (by decide)) ⟨hi, hP⟩), fun P hP => ?_⟩
    unfold wpY_total; exact rd_yn (a := 0) (b := 6) (by omega) (by omega) (by decide) (br_f rd_1n0 ⟨hi, hP⟩)
theorem i_vc_total {k : Nat} {u : SX} {v : SY} (I : i_Rel k u v) (hk : k + 6 ≤ 3072) (v1 : Int32) : wpX_total (fun r => wpY_total (fun r' => r' = r ∧ i_Rel (k + 6) u v) v v1) u v1 := by
  obtain ⟨r, hX, hY⟩ := pu_total I v1
  exact hX _ (hY _ ⟨rfl, i_up I⟩)
theorem qd_lt {q j : Nat} (hq : q < 2 ^ 30) (hj : j < 2 ^ 31) : nI q - 1 < nI j ↔ q ≤ j := by
  rw [Int32.lt_iff_toInt_lt, show (1 : Int32) = nI 1 from rfl, pk_sub_toInt hq (by decide), nI_toInt hj]
  omega
theorem pu_queued {k : Nat} {u : SX} {v : SY} (I : i_Rel k u v) (v1 : Int32) : ∃ r, (∀ P : Int32 → Prop, P r → wpX_queued P u v1) ∧ (∀ P : Int32 → Prop, P r → wpY_queued P v v1) := by
  obtain ⟨now, nx, dn, w, h1, h2, h3, hR⟩ := I
  obtain ⟨rc, qn, zae, zal, zan, zat, zbr, zca, zcl, zcm, zcr, zen, zfa, zfi, zho, zhs, zky, zpa, zpt, zqx, zqy, zra, zre, zrp, zrs, zru, zse, zsi, zsl, zso, zst, zsu, zti, ztk, ztr, ztu, zup, zwe, zwl, zwo, zto, rfl, rfl, hset, hcli, hsrv, hrt, hfnd, hreq, hrun, hqs, htot⟩ := hR
  have hw : w ≤ 8 := hqs.2.2.1
  by_cases m : v1 = -1
  · exact ⟨nI w, fun P hP => br_t m hP, fun P hP => br_t m hP⟩
  by_cases h : v1 < 0
  · exact ⟨-1, fun P hP => br_f m (br_t h hP), fun P hP => br_f m (rd_y0 (Or.inl h) (br_t rfl hP))⟩
  obtain ⟨j, hj, rfl⟩ := nI_of h
  by_cases z : j < w
  · have h8 : vp_in (nI j) 8 := vp_in_nI (by omega) (by decide)
    have h9 : vp_in (nI j) 9 := vp_in_nI (by omega) (by decide)
    have ej : (nI j).toNatClampNeg = j := nI_clamp (by omega)
    have e : zqy (nI j).toNatClampNeg = zqx (nI j).toNatClampNeg := by rw [ej]; exact hqs.2.2.2.1 j (by omega)
    exact ⟨zqx (nI j).toNatClampNeg, fun P hP => br_f m (br_f h (br_t (nI_lt z (by omega)) ⟨h8, hP⟩)), fun P hP => br_f m (rd_y1 h (fun y => by have := (qd_lt (by omega) hj).mp y; omega) (br_f rd_1n0 ⟨h9, by rw [e]; exact hP⟩))⟩
  · exact ⟨-1, fun P hP => br_f m (br_f h (br_f (nI_nlt (by omega) hj) hP)), fun P hP => br_f m (rd_y0 (Or.inr ((qd_lt (by omega) hj).mpr (by omega))) (br_t rfl hP))⟩
theorem i_vc_queued {k : Nat} {u : SX} {v : SY} (I : i_Rel k u v) (hk : k + 6 ≤ 3072) (v1 : Int32) : wpX_queued (fun r => wpY_queued (fun r' => r' = r ∧ i_Rel (k + 6) u v) v v1) u v1 := by
  obtain ⟨r, hX, hY⟩ := pu_queued I v1
  exact hX _ (hY _ ⟨rfl, i_up I⟩)
end
section
/-! took: X counts, Y sorts -/
theorem tk_pos {s : Nat → Int32} {v : Int32} {i : Nat} : ∀ m, m ≤ i → (∀ a, m ≤ a → a < i → v < s a) → ∃ j, j ≤ i ∧ (∀ a, j ≤ a → a < i → v < s a) ∧ (j = 0 ∨ ¬ v < s (j - 1)) := by
  intro m
  induction m with
  | zero => intro _ h; exact ⟨0, by omega, h, Or.inl rfl⟩
  | succ m ih =>
    intro hm h
    by_cases z : v < s m
    · exact ih (by omega) (fun a ha hi => by
        by_cases e : a = m
        · rw [e]; exact z
        · exact h a (by omega) hi)
    · exact ⟨m + 1, hm, h, Or.inr z⟩
theorem tk_srt (t : Nat → Int32) : ∀ n, ∃ s, tk_St t n s := by
  intro n
  induction n with
  | zero => exact ⟨t, tk_St0 t t⟩
  | succ n ih =>
    obtain ⟨s, h⟩ := ih
    obtain ⟨j, hj, h4, h5⟩ := tk_pos (s := s) (v := t n) (i := n) n (Nat.le_refl _) (fun a ha hi => by omega)
    refine ⟨fun a => if a < j then s a else if a = j then t n else s (a - 1), tk_step h rfl hj (fun a ha => ?_) ?_ (fun a ha hi => ?_) h4 h5⟩
    · rw [if_pos ha]
    · rw [if_neg (by omega), if_pos rfl]
    · rw [if_neg (by omega), if_neg (by omega)]
section
variable (now rc ql nx : Nat) (zae zal zan zat zbr zca zcl zcm zcr zen zfa zfi zho zhs zky zpa zpt zqx zqy zra zre zrp zrs zru zse zsi zsl zso zst zsu zsy zti ztk ztr ztu zup zwe zwl zwo : Nat → Int32) (zto : Nat → Int64)
theorem tx_in {n i kk : Nat} (hn : n ≤ 64) (hi : i < n) (hk : kk < n) (P : Int32 → Prop) (J : Int32 → Prop) (hP : tk_rk ztu i n = kk → P (ztu i)) (hJ : ¬ tk_rk ztu i n = kk → J (nI (i + 1))) :
    ∀ d j f : Nat, j + d = n → d < f → wX_took_57 P J (nI kk) (nI n) (nI i) (nI now) (nI rc) (nI ql) zse zto ztu zwe zsl zpa zbr zup zti zfa zcr zru zsu zfi zrp zrs zca zre ztk zho zhs zst zcl zpt zky zwo zra zcm zen zat zan ztr zae zal zqx f (nI (tk_rk ztu i j)) (nI j) := by
  have i64 : vp_in (nI i) 64 := vp_in_nI (by omega) (by decide)
  have ei : (nI i).toNatClampNeg = i := nI_clamp (by omega)
  intro d
  induction d with
  | zero =>
    intro j f hj hf
    have e : j = n := by omega
    subst e
    have hr := tk_rk_le ztu i j
    obtain ⟨m, rfl, hm⟩ := fu_m hf
    refine br_t Int32.le_rfl ?_
    by_cases z : tk_rk ztu i j = kk
    · refine br_t (congrArg nI z) ⟨i64, ?_⟩
      rw [ei]
      exact hP z
    · exact br_f (fun y => z ((nI_eq (by omega) (by omega)).mp y)) (nm_r (nI_1 i) (hJ z))
  | succ d ih =>
    intro j f hj hf
    have j64 : vp_in (nI j) 64 := vp_in_nI (by omega) (by decide)
    have ej : (nI j).toNatClampNeg = j := nI_clamp (by omega)
    obtain ⟨m, rfl, hm⟩ := fu_m hf
    have ih' := ih (j + 1) m (by omega) (by omega)
    refine br_f (nI_ge (by omega) (by omega)) ⟨j64, i64, ?_⟩
    rw [ei, ej]
    by_cases a : ztu j < ztu i
    · rw [tk_rk_s, if_pos (Or.inl a)] at ih'
      exact br_t a (nm_r (nI_1 _) (nm_r (nI_1 j) ih'))
    · refine br_f a ⟨j64, i64, ?_⟩
      by_cases b : ztu j = ztu i
      · refine br_t b (pk_le i j (fun c => ?_) (fun c => ?_))
        · rw [tk_rk_s, if_neg (fun z => z.elim a (fun z => by omega))] at ih'
          exact nm_r (nI_1 j) ih'
        · rw [tk_rk_s, if_pos (Or.inr ⟨b, c⟩)] at ih'
          exact nm_r (nI_1 _) (nm_r (nI_1 j) ih')
      · rw [tk_rk_s, if_neg (fun z => z.elim a (fun z => b z.1))] at ih'
        exact br_f b (nm_r (nI_1 j) ih')
theorem tx_out {n kk : Nat} (hn : n ≤ 64) (hk : kk < n) (P : Int32 → Prop) (hP : ∀ i, i < n → tk_rk ztu i n = kk → P (ztu i)) :
    ∀ d i f : Nat, i + d = n → (∃ i', i ≤ i' ∧ i' < n ∧ tk_rk ztu i' n = kk) → d < f → wX_took_46 P (nI kk) (nI n) (nI now) (nI rc) (nI ql) zse zto ztu zwe zsl zpa zbr zup zti zfa zcr zru zsu zfi zrp zrs zca zre ztk zho zhs zst zcl zpt zky zwo zra zcm zen zat zan ztr zae zal zqx f (nI i) := by
  intro d
  induction d with
  | zero =>
    intro i f hi he _
    obtain ⟨i', a, b, _⟩ := he
    omega
  | succ d ih =>
    intro i f hi he hf
    obtain ⟨m, rfl, hm⟩ := fu_m hf
    refine br_f (nI_ge (by omega) (by omega)) ⟨n + 1, tx_in now rc ql zae zal zan zat zbr zca zcl zcm zcr zen zfa zfi zho zhs zky zpa zpt zqx zra zre zrp zrs zru zse zsl zst zsu zti ztk ztr ztu zup zwe zwo zto hn (by omega) hk P _ (hP i (by omega)) (fun z => ih (i + 1) m (by omega) ?_ (by omega)) n 0 (n + 1) (by omega) (by omega)⟩
    obtain ⟨i', a, b, c⟩ := he
    refine ⟨i', ?_, b, c⟩
    by_cases e : i = i'
    · rw [← e] at c; exact absurd c z
    · omega
theorem ty_in {n i kk : Nat} {s : Nat → Int32} (hn : n ≤ 64) (hi : i < n) (h : tk_St ztu i s) (P : Int32 → SY → Prop) (J : Int32 → (Nat → Int32) → (Nat → Int32) → (Nat → Int32) → (Nat → Int32) → (Nat → Int32) → (Nat → Int32) → (Nat → Int32) → (Nat → Int32) → (Nat → Int32) → (Nat → Int32) → (Nat → Int32) → (Nat → Int32) → (Nat → Int32) → (Nat → Int32) → (Nat → Int32) → (Nat → Int32) → (Nat → Int32) → (Nat → Int32) → (Nat → Int32) → (Nat → Int32) → (Nat → Int32) → (Nat → Int32) → (Nat → Int32) → (Nat → Int32) → (Nat → Int32) → (Nat → Int32) → (Nat → Int32) → (Nat → Int32) → (Nat → Int32) → (Nat → Int32) → (Nat → Int32) → (Nat → Int32) → (Nat → Int32) → (Nat → Int64) → (Nat → Int32) → (Nat → Int32) → Prop)
    (hJ : ∀ s', tk_St ztu (i + 1) s' → J (nI (i + 1)) zwe zsl zpa zti zfa zcr zsu zsi zwl zbr zup zrp zrs zse zca zre ztk zho zhs zcl zpt zky zwo zra zsy zat zan ztr zcm zen zae zal zqy zto ztu s') : ∀ j : Nat, j ≤ i → ∀ s' : Nat → Int32, (∀ a, a < j → s' a = s a) → (∀ a, j < a → a ≤ i → s' a = s (a - 1)) → (∀ a, j ≤ a → a < i → ztu i < s a) →
    ∀ f : Nat, j < f → wY_took_64 P J (nI kk) (nI n) (nI i) (ztu i) (nI now) (nI rc) (nI nx) (nI ql) f (nI j) zwe zsl zpa zti zfa zcr zsu zsi zwl zbr zup zrp zrs zse zca zre ztk zho zhs zcl zpt zky zwo zra zsy zat zan ztr zcm zen zae zal zqy zto ztu s' := by
  intro j
  induction j with
  | zero =>
    intro hj s' a1 a2 a3 f hf
    obtain ⟨m, rfl, hm⟩ := fu_m hf
    have e : upd s' (nI 0).toNatClampNeg (ztu i) = upd s' 0 (ztu i) := by rw [nI_clamp (by decide)]
    exact br_t (show nI 0 ≤ 0 by decide) ⟨vp_in_nI (by decide) (by decide), nm_r e (nm_r (nI_1 i) (hJ _ (tk_step h rfl hj (fun a ha => by omega) pk_us (fun a h1 h2 => by rw [pk_un (by omega)]; exact a2 a h1 h2) a3 (Or.inl rfl))))⟩
  | succ j ih =>
    intro hj s' a1 a2 a3 f hf
    obtain ⟨m, rfl, hm⟩ := fu_m hf
    have ej : (nI j).toNatClampNeg = j := nI_clamp (by omega)
    have ej1 : (nI (j + 1)).toNatClampNeg = j + 1 := nI_clamp (by omega)
    have j64 : vp_in (nI j) 64 := vp_in_nI (by omega) (by decide)
    have j65 : vp_in (nI (j + 1)) 64 := vp_in_nI (by omega) (by decide)
    refine br_f (nI_nle (by omega) (by omega)) ?_
    rw [nI_pred, ej, ej1]
    refine ⟨j64, ?_⟩
    by_cases z : s' j ≤ ztu i
    · have z' : ¬ ztu i < s (j + 1 - 1) := by rw [Nat.add_sub_cancel, ← a1 j (by omega)]; exact Int32.not_lt.mpr z
      exact br_t z ⟨j65, nm_e (nm_r (nI_1 i) (hJ _ (tk_step h rfl hj (fun a ha => by rw [pk_un (by omega)]; exact a1 a ha) pk_us (fun a h1 h2 => by rw [pk_un (by omega)]; exact a2 a h1 h2) a3 (Or.inr z'))))⟩
    · refine br_f z ⟨j64, j65, nm_e (nm_r (pk_m1 j) (ih (by omega) (upd s' (j + 1) (s' j)) (fun a ha => by rw [pk_un (by omega)]; exact a1 a (by omega)) (fun a h1 h2 => ?_) (fun a h1 h2 => ?_) m (by omega)))⟩
      · by_cases e : a = j + 1
        · rw [e, pk_us, Nat.add_sub_cancel]; exact a1 j (by omega)
        · rw [pk_un e]; exact a2 a (by omega) h2
      · by_cases e : a = j
        · rw [e, ← a1 j (by omega)]; exact Int32.not_le.mp z
        · exact a3 a (by omega) h2
theorem ty_out {n kk : Nat} (hn : n ≤ 64) (hk : kk < n) (P : Int32 → SY → Prop) (hP : ∀ s, tk_St ztu n s → P (s kk) (nI now, nI rc, nI nx, nI ql, zwe, zsl, zpa, zti, zfa, zcr, zsu, zsi, zwl, zbr, zup, zrp, zrs, zse, zca, zre, ztk, zho, zhs, zcl, zpt, zky, zwo, zra, zsy, zat, zan, ztr, zcm, zen, zae, zal, zqy, zto, ztu, s)) :
    ∀ d i : Nat, i + d = n → ∀ s, tk_St ztu i s → ∀ f : Nat, d < f → wY_took_48 P (nI kk) (nI n) (nI now) (nI rc) (nI nx) (nI ql) f (nI i) zwe zsl zpa zti zfa zcr zsu zsi zwl zbr zup zrp zrs zse zca zre ztk zho zhs zcl zpt zky zwo zra zsy zat zan ztr zcm zen zae zal zqy zto ztu s := by
  have k64 : vp_in (nI kk) 64 := vp_in_nI (by omega) (by decide)
  have ek : (nI kk).toNatClampNeg = kk := nI_clamp (by omega)
  intro d
  induction d with
  | zero =>
    intro i hi s h f hf
    have e : i = n := by omega
    subst e
    obtain ⟨m, rfl, hm⟩ := fu_m hf
    refine br_t Int32.le_rfl ⟨k64, ?_⟩
    rw [ek]
    exact hP s h
  | succ d ih =>
    intro i hi s h f hf
    have i64 : vp_in (nI i) 64 := vp_in_nI (by omega) (by decide)
    have ei : ztu (nI i).toNatClampNeg = ztu i := by rw [nI_clamp (by omega)]
    obtain ⟨m, rfl, hm⟩ := fu_m hf
    exact br_f (nI_ge (by omega) (by omega)) ⟨i64, nm_r ei ⟨i + 1, ty_in now rc ql nx zae zal zan zat zbr zca zcl zcm zcr zen zfa zho zhs zky zpa zpt zqy zra zre zrp zrs zse zsi zsl zsu zsy zti ztk ztr ztu zup zwe zwl zwo zto hn (by omega) h P _ (fun s' h' => ih (i + 1) (by omega) s' h' m (by omega)) i (Nat.le_refl _) s (fun _ _ => rfl) (fun a h1 h2 => by omega) (fun a h1 h2 => by omega) (i + 1) (by omega)⟩⟩
theorem to_X {n : Nat} (hn : n ≤ 64) (v1 : Int32) (P : Int32 → Prop) (h1 : v1 = -1 → P (nI n)) (h2 : ¬ v1 = -1 → (v1 < 0 ∨ nI n ≤ v1) → P (-1)) (h3 : ∀ kk, kk < n → v1 = nI kk → ∀ i, i < n → tk_rk ztu i n = kk → P (ztu i)) : wX_took_25 P v1 (nI n) (nI now) (nI rc) (nI ql) zse zto ztu zwe zsl zpa zbr zup zti zfa zcr zru zsu zfi zrp zrs zca zre ztk zho zhs zst zcl zpt zky zwo zra zcm zen zat zan ztr zae zal zqx := by
  by_cases m : v1 = -1
  · exact br_t m (h1 m)
  refine br_f m ?_
  rcases pk_ix v1 (n := n) (by omega) with h | h | ⟨kk, hk, rfl⟩
  · exact br_t h (h2 m (Or.inl h))
  · by_cases z : v1 < 0
    · exact br_t z (h2 m (Or.inl z))
    · exact br_f z (br_f (Int32.not_lt.mpr h) (h2 m (Or.inr h)))
  · obtain ⟨s, hs⟩ := tk_srt ztu n
    obtain ⟨i, hi, e⟩ := tk_ex hs hk
    exact br_f (nI_pos (by omega)) (br_t (nI_lt hk (by omega)) ⟨n + 1, tx_out now rc ql zae zal zan zat zbr zca zcl zcm zcr zen zfa zfi zho zhs zky zpa zpt zqx zra zre zrp zrs zru zse zsl zst zsu zti ztk ztr ztu zup zwe zwo zto hn hk P (h3 kk hk rfl) n 0 (n + 1) (by omega) ⟨i, by omega, hi, e⟩ (by omega)⟩)
theorem to_Y {n : Nat} (hn : n ≤ 64) (v1 : Int32) (P : Int32 → SY → Prop) (h1 : v1 = -1 → P (nI n) (nI now, nI rc, nI nx, nI ql, zwe, zsl, zpa, zti, zfa, zcr, zsu, zsi, zwl, zbr, zup, zrp, zrs, zse, zca, zre, ztk, zho, zhs, zcl, zpt, zky, zwo, zra, zsy, zat, zan, ztr, zcm, zen, zae, zal, zqy, zto, ztu, zso)) (h2 : ¬ v1 = -1 → (v1 < 0 ∨ nI n ≤ v1) → P (-1) (nI now, nI rc, nI nx, nI ql, zwe, zsl, zpa, zti, zfa, zcr, zsu, zsi, zwl, zbr, zup, zrp, zrs, zse, zca, zre, ztk, zho, zhs, zcl, zpt, zky, zwo, zra, zsy, zat, zan, ztr, zcm, zen, zae, zal, zqy, zto, ztu, zso)) (h3 : ∀ kk, kk < n → v1 = nI kk → ∀ s, tk_St ztu n s → P (s kk) (nI now, nI rc, nI nx, nI ql, zwe, zsl, zpa, zti, zfa, zcr, zsu, zsi, zwl, zbr, zup, zrp, zrs, zse, zca, zre, ztk, zho, zhs, zcl, zpt, zky, zwo, zra, zsy, zat, zan, ztr, zcm, zen, zae, zal, zqy, zto, ztu, s)) : wY_took_25 P v1 (nI n) (nI now) (nI rc) (nI nx) (nI ql) zwe zsl zpa zti zfa zcr zsu zsi zwl zbr zup zrp zrs zse zca zre ztk zho zhs zcl zpt zky zwo zra zsy zat zan ztr zcm zen zae zal zqy zto ztu zso := by
  by_cases m : v1 = -1
  · exact br_t m (h1 m)
  refine br_f m ?_
  by_cases z : v1 < 0
  · exact rd_y0 (Or.inl z) (br_t rfl (h2 m (Or.inl z)))
  obtain ⟨kk, hk, rfl⟩ := nI_of z
  by_cases y : kk < n
  · exact rd_y1 z (fun q => by have := (qd_lt (by omega) hk).mp q; omega) (br_f rd_1n0 ⟨n + 1, ty_out now rc ql nx zae zal zan zat zbr zca zcl zcm zcr zen zfa zho zhs zky zpa zpt zqy zra zre zrp zrs zse zsi zsl zsu zsy zti ztk ztr ztu zup zwe zwl zwo zto hn y P (h3 kk y rfl) n 0 (by omega) zso (tk_St0 _ _) (n + 1) (by omega)⟩)
  · exact rd_y0 (Or.inr ((qd_lt (by omega) hk).mpr (by omega))) (br_t rfl (h2 m (Or.inr (nI_le (by omega) hk))))
end
theorem i_vc_took {k : Nat} {u : SX} {v : SY} (I : i_Rel k u v) (hk : k + 6 ≤ 3072) (v1 : Int32) : wpX_took (fun r => wpY_took (fun r' v' => r' = r ∧ i_Rel (k + 6) u v') v v1) u v1 := by
  have I' := i_up I
  obtain ⟨now, nx, dn, w, h1, h2, h3, hR⟩ := I
  obtain ⟨rc, qn, zae, zal, zan, zat, zbr, zca, zcl, zcm, zcr, zen, zfa, zfi, zho, zhs, zky, zpa, zpt, zqx, zqy, zra, zre, zrp, zrs, zru, zse, zsi, zsl, zso, zst, zsu, zti, ztk, ztr, ztu, zup, zwe, zwl, zwo, zto, rfl, rfl, hset, hcli, hsrv, hrt, hfnd, hreq, hrun, hqs, htot⟩ := hR
  have ht := htot.2
  have eX : ∀ P : Int32 → Prop, wX_took_25 P v1 (nI (min dn 64)) (nI now) (nI rc) (nI w) zse zto ztu zwe zsl zpa zbr zup zti zfa zcr zru zsu zfi zrp zrs zca zre ztk zho zhs zst zcl zpt zky zwo zra zcm zen zat zan ztr zae zal zqx → wpX_took P (nI now, nI rc, nI w, zse, zto, ztu, zwe, zsl, zpa, zbr, zup, zti, zfa, zcr, zru, zsu, zfi, zrp, zrs, zca, zre, ztk, zho, zhs, zst, zcl, zpt, zky, zwo, zra, zcm, zen, zat, zan, ztr, zae, zal, zqx) v1 := by
    intro P hP
    by_cases z : 64 ≤ dn
    · rw [show min dn 64 = 64 from by omega] at hP
      exact br_t (by rw [ht]; exact (pk_lLE (a := 64) (by decide) (by omega)).mpr z) hP
    · rw [show min dn 64 = dn from by omega] at hP
      refine br_f (fun y => z (by rw [ht] at y; exact (pk_lLE (a := 64) (by decide) (by omega)).mp y)) ?_
      rw [ht, lN_i]
      exact hP
  have eY : ∀ P : Int32 → SY → Prop, wY_took_25 P v1 (nI (min dn 64)) (nI now) (nI rc) (nI nx) (nI w) zwe zsl zpa zti zfa zcr zsu zsi zwl zbr zup zrp zrs zse zca zre ztk zho zhs zcl zpt zky zwo zra zst zat zan ztr zcm zen zae zal zqy zto ztu zso → wpY_took P (nI now, nI rc, nI nx, nI w, zwe, zsl, zpa, zti, zfa, zcr, zsu, zsi, zwl, zbr, zup, zrp, zrs, zse, zca, zre, ztk, zho, zhs, zcl, zpt, zky, zwo, zra, zst, zat, zan, ztr, zcm, zen, zae, zal, zqy, zto, ztu, zso) v1 := by
    intro P hP
    by_cases z : dn ≤ 64
    · rw [show min dn 64 = dn from by omega] at hP
      refine br_t (by rw [ht]; exact (pk_lLE (b := 64) (by omega) (by decide)).mpr z) ?_
      rw [ht, lN_i]
      exact hP
    · rw [show min dn 64 = 64 from by omega] at hP
      exact br_f (fun y => z (by rw [ht] at y; exact (pk_lLE (b := 64) (by omega) (by decide)).mp y)) hP
  have hY : ∀ r : Int32, (v1 = -1 → nI (min dn 64) = r) → (¬ v1 = -1 → (v1 < 0 ∨ nI (min dn 64) ≤ v1) → -1 = r) → (∀ kk, kk < min dn 64 → v1 = nI kk → ∀ s, tk_St ztu (min dn 64) s → s kk = r) →
      wpY_took (fun r' v' => r' = r ∧ i_Rel (k + 6) (nI now, nI rc, nI w, zse, zto, ztu, zwe, zsl, zpa, zbr, zup, zti, zfa, zcr, zru, zsu, zfi, zrp, zrs, zca, zre, ztk, zho, zhs, zst, zcl, zpt, zky, zwo, zra, zcm, zen, zat, zan, ztr, zae, zal, zqx) v') (nI now, nI rc, nI nx, nI w, zwe, zsl, zpa, zti, zfa, zcr, zsu, zsi, zwl, zbr, zup, zrp, zrs, zse, zca, zre, ztk, zho, zhs, zcl, zpt, zky, zwo, zra, zst, zat, zan, ztr, zcm, zen, zae, zal, zqy, zto, ztu, zso) v1 := fun r g1 g2 g3 =>
    eY _ (to_Y now rc w nx zae zal zan zat zbr zca zcl zcm zcr zen zfa zho zhs zky zpa zpt zqy zra zre zrp zrs zse zsi zsl zso zsu zst zti ztk ztr ztu zup zwe zwl zwo zto (by omega) v1 _ (fun m => ⟨g1 m, I'⟩) (fun m b => ⟨g2 m b, I'⟩) (fun kk hk' e s hs => ⟨g3 kk hk' e s hs, now, nx, dn, w, by omega, by omega, h3, md_mk hset hcli hsrv hrt hfnd hreq hrun hqs htot⟩))
  refine eX _ (to_X now rc w zae zal zan zat zbr zca zcl zcm zcr zen zfa zfi zho zhs zky zpa zpt zqx zra zre zrp zrs zru zse zsl zst zsu zti ztk ztr ztu zup zwe zwo zto (by omega) v1 _ (fun m => hY _ (fun _ => rfl) (fun m' => absurd m m') (fun kk hk' e => absurd (e.symm.trans m) (ms_nI_m1 (by omega)))) (fun m b => hY _ (fun m' => absurd m' m) (fun _ _ => rfl) (fun kk hk' e s hs => ?_)) (fun kk hk' e i hi er => hY _ (fun m' => absurd (e.symm.trans m') (ms_nI_m1 (by omega))) (fun _ b => ?_) (fun kk2 hk2 e2 s hs => ?_)))
  · rcases b with b | b
    · rw [e] at b; exact absurd b (nI_pos (by omega))
    · rw [e] at b; have := (nI_leI (by omega) (by omega)).mp b; omega
  · rcases b with b | b
    · rw [e] at b; exact absurd b (nI_pos (by omega))
    · rw [e] at b; have := (nI_leI (by omega) (by omega)).mp b; omega
  · have ek : kk2 = kk := (nI_eq (by omega) (by omega)).mp (e2.symm.trans e)
    rw [ek]
    exact (tk_uniq hs hi hk' er).symm
end
section
/-! both constructors -/
def fl_f (v : Int32) : Nat → Nat → Int32
  | 0 => fun _ => 0
  | i + 1 => upd (fl_f v i) i v
theorem fl_s (v : Int32) {i : Nat} (h : i < 6) : upd (fl_f v i) (nI i).toNatClampNeg v = fl_f v (i + 1) := by rw [nI_clamp (by omega)]; rfl
theorem rn_z (a : Nat → Int32) (s : Int32) : ∀ n, rn_cnt (fun _ => 0) a s n = 0 := by
  intro n
  induction n with
  | zero => rfl
  | succ n ih => rw [rn_s, ih, if_neg (fun z => absurd z.1 (by decide))]
def se_0 : Nat → Int32 := upd (upd (upd (upd (upd (fun _ => 0) 1 100) 2 1) 3 50) 4 10) 5 100
theorem in_X1 (P : SX → Prop) (hP : P (nI 0, nI 0, nI 0, se_0, fun _ => 0, fun _ => 0, fun _ => 0, fl_f 1 6, fl_f 1 6, fun _ => 0, fl_f 1 6, fl_f (-1) 6, fun _ => 0, fun _ => 0, fun _ => 0, fun _ => 0, fun _ => 0, fun _ => 0, fun _ => 0, fl_f 5 6, fl_f 10 6, fl_f 5 6, fl_f (-1) 6, fun _ => 0, fun _ => 0, fun _ => 0, fun _ => 0, fun _ => 0, fun _ => 0, fun _ => 0, fun _ => 0, fun _ => 0, fun _ => 0, fun _ => 0, fun _ => 0, fun _ => 0, fun _ => 0, fun _ => 0)) :
    ∀ d i n : Nat, i + d = 6 → d < n → wX_init_382 P 0 0 0 n (nI i) se_0 (fun _ => 0) (fun _ => 0) (fun _ => 0) (fl_f 1 6) (fl_f 1 6) (fun _ => 0) (fl_f 1 6) (fl_f (-1) 6) (fun _ => 0) (fun _ => 0) (fun _ => 0) (fun _ => 0) (fun _ => 0) (fun _ => 0) (fun _ => 0) (fl_f 5 i) (fl_f 10 i) (fl_f 5 i) (fl_f (-1) i) (fun _ => 0) (fun _ => 0) (fun _ => 0) (fun _ => 0) (fun _ => 0) (fun _ => 0) (fun _ => 0) (fun _ => 0) (fun _ => 0) (fun _ => 0) (fun _ => 0) (fun _ => 0) (fun _ => 0) (fun _ => 0) (fun _ => 0) := by
  intro d
  induction d with
  | zero =>
    intro i n hi hn
    have e : i = 6 := by omega
    subst e
    obtain ⟨m, rfl, hm⟩ := fu_m hn
    exact br_t (by decide) hP
  | succ d ih =>
    intro i n hi hn
    have h6 : i < 6 := by omega
    have hv : vp_in (nI i) 6 := vp_in_nI h6 (by decide)
    obtain ⟨m, rfl, hm⟩ := fu_m hn
    exact br_f (nI_ge (b := 6) h6 (by decide)) ⟨hv, nm_r (fl_s 5 h6) ⟨hv, nm_r (fl_s 10 h6) ⟨hv, nm_r (fl_s 5 h6) ⟨hv, nm_r (fl_s (-1) h6) (nm_r (nI_1 i) (ih (i + 1) m (by omega) (by omega)))⟩⟩⟩⟩
theorem in_X2 (P : SX → Prop) (hP : P (nI 0, nI 0, nI 0, se_0, fun _ => 0, fun _ => 0, fun _ => 0, fl_f 1 6, fl_f 1 6, fun _ => 0, fl_f 1 6, fl_f (-1) 6, fun _ => 0, fun _ => 0, fun _ => 0, fun _ => 0, fun _ => 0, fun _ => 0, fun _ => 0, fl_f 5 6, fl_f 10 6, fl_f 5 6, fl_f (-1) 6, fun _ => 0, fun _ => 0, fun _ => 0, fun _ => 0, fun _ => 0, fun _ => 0, fun _ => 0, fun _ => 0, fun _ => 0, fun _ => 0, fun _ => 0, fun _ => 0, fun _ => 0, fun _ => 0, fun _ => 0)) :
    ∀ d i n : Nat, i + d = 6 → d < n → wX_init_340 P 0 0 0 n (nI i) se_0 (fun _ => 0) (fun _ => 0) (fun _ => 0) (fl_f 1 i) (fl_f 1 i) (fun _ => 0) (fl_f 1 i) (fl_f (-1) i) (fun _ => 0) (fun _ => 0) (fun _ => 0) (fun _ => 0) (fun _ => 0) (fun _ => 0) (fun _ => 0) (fun _ => 0) (fun _ => 0) (fun _ => 0) (fun _ => 0) (fun _ => 0) (fun _ => 0) (fun _ => 0) (fun _ => 0) (fun _ => 0) (fun _ => 0) (fun _ => 0) (fun _ => 0) (fun _ => 0) (fun _ => 0) (fun _ => 0) (fun _ => 0) (fun _ => 0) (fun _ => 0) (fun _ => 0) := by
  intro d
  induction d with
  | zero =>
    intro i n hi hn
    have e : i = 6 := by omega
    subst e
    obtain ⟨m, rfl, hm⟩ := fu_m hn
    exact br_t (by decide) ⟨7, in_X1 P hP 6 0 7 rfl (by omega)⟩
  | succ d ih =>
    intro i n hi hn
    have h6 : i < 6 := by omega
    have hv : vp_in (nI i) 6 := vp_in_nI h6 (by decide)
    have eb : upd (fl_f 1 i) (nI i).toNatClampNeg (vp_nar .boolean 1) = fl_f 1 (i + 1) := by rw [ms_nb1]; exact fl_s 1 h6
    obtain ⟨m, rfl, hm⟩ := fu_m hn
    exact br_f (nI_ge (b := 6) h6 (by decide)) ⟨hv, nm_r (fl_s 1 h6) ⟨hv, nm_r (fl_s 1 h6) ⟨hv, nm_r eb ⟨hv, nm_r (fl_s (-1) h6) (nm_r (nI_1 i) (ih (i + 1) m (by omega) (by omega)))⟩⟩⟩⟩
theorem in_Y (P : SY → Prop) (hP : P (nI 0, nI 0, nI 0, nI 0, fun _ => 0, fl_f 1 6, fl_f 1 6, fl_f (-1) 6, fun _ => 0, fun _ => 0, fun _ => 0, fun _ => 0, fun _ => 0, fun _ => 0, fl_f 1 6, fun _ => 0, fun _ => 0, se_0, fl_f 5 6, fl_f 10 6, fl_f 5 6, fl_f (-1) 6, fun _ => 0, fun _ => 0, fun _ => 0, fun _ => 0, fun _ => 0, fun _ => 0, fun _ => 0, fun _ => 0, fun _ => 0, fun _ => 0, fun _ => 0, fun _ => 0, fun _ => 0, fun _ => 0, fun _ => 0, fun _ => 0, fun _ => 0, fun _ => 0)) :
    ∀ d i n : Nat, i + d = 6 → d < n → wY_init_294 P 0 0 0 0 n (nI i) (fun _ => 0) (fl_f 1 i) (fl_f 1 i) (fl_f (-1) i) (fun _ => 0) (fun _ => 0) (fun _ => 0) (fun _ => 0) (fun _ => 0) (fun _ => 0) (fl_f 1 i) (fun _ => 0) (fun _ => 0) (fun _ => 0) (fl_f 5 i) (fl_f 10 i) (fl_f 5 i) (fl_f (-1) i) (fun _ => 0) (fun _ => 0) (fun _ => 0) (fun _ => 0) (fun _ => 0) (fun _ => 0) (fun _ => 0) (fun _ => 0) (fun _ => 0) (fun _ => 0) (fun _ => 0) (fun _ => 0) (fun _ => 0) (fun _ => 0) (fun _ => 0) (fun _ => 0) (fun _ => 0) (fun _ => 0) := by
  intro d
  induction d with
  | zero =>
    intro i n hi hn
    have e : i = 6 := by omega
    subst e
    obtain ⟨m, rfl, hm⟩ := fu_m hn
    exact br_t (by decide) (nm_e (nm_e (nm_e (nm_e (nm_e hP)))))
  | succ d ih =>
    intro i n hi hn
    have h6 : i < 6 := by omega
    have hv : vp_in (nI i) 6 := vp_in_nI h6 (by decide)
    have eb : upd (fl_f 1 i) (nI i).toNatClampNeg (vp_nar .boolean 1) = fl_f 1 (i + 1) := by rw [ms_nb1]; exact fl_s 1 h6
    obtain ⟨m, rfl, hm⟩ := fu_m hn
    exact br_f (nI_ge (b := 6) h6 (by decide)) ⟨hv, nm_r (fl_s 1 h6) ⟨hv, nm_r (fl_s 1 h6) ⟨hv, nm_r (fl_s (-1) h6) ⟨hv, nm_r eb ⟨hv, nm_r (fl_s 5 h6) ⟨hv, nm_r (fl_s 5 h6) ⟨hv, nm_r (fl_s 10 h6) ⟨hv, nm_r (fl_s (-1) h6) (nm_r (nI_1 i) (ih (i + 1) m (by omega) (by omega)))⟩⟩⟩⟩⟩⟩⟩⟩
theorem in_6 {p : Nat → Prop} (h0 : p 0) (h1 : p 1) (h2 : p 2) (h3 : p 3) (h4 : p 4) (h5 : p 5) : ∀ s, s < 6 → p s := by
  intro s hs
  match s, hs with
  | 0, _ => exact h0
  | 1, _ => exact h1
  | 2, _ => exact h2
  | 3, _ => exact h3
  | 4, _ => exact h4
  | 5, _ => exact h5
theorem in_cli : iv_cli (fl_f 10 6) (fl_f (-1) 6) := in_6 ⟨by decide, Or.inl (by decide)⟩ ⟨by decide, Or.inl (by decide)⟩ ⟨by decide, Or.inl (by decide)⟩ ⟨by decide, Or.inl (by decide)⟩ ⟨by decide, Or.inl (by decide)⟩ ⟨by decide, Or.inl (by decide)⟩
theorem in_srv : iv_srv (fun _ => 0) (fl_f (-1) 6) := in_6 ⟨⟨0, by decide, rfl⟩, Or.inl (by decide)⟩ ⟨⟨0, by decide, rfl⟩, Or.inl (by decide)⟩ ⟨⟨0, by decide, rfl⟩, Or.inl (by decide)⟩ ⟨⟨0, by decide, rfl⟩, Or.inl (by decide)⟩ ⟨⟨0, by decide, rfl⟩, Or.inl (by decide)⟩ ⟨⟨0, by decide, rfl⟩, Or.inl (by decide)⟩
theorem in_set : iv_set se_0 := ⟨by decide, by decide, 50, by decide, by decide⟩
theorem in_e0 : upd (fun _ => 0) 0 0 = (fun _ => 0 : Nat → Int32) := ud_same
theorem in_e6 : upd se_0 6 0 = se_0 := ud_id (by decide)
theorem in_R : i_Rel 0 (nI 0, nI 0, nI 0, se_0, fun _ => 0, fun _ => 0, fun _ => 0, fl_f 1 6, fl_f 1 6, fun _ => 0, fl_f 1 6, fl_f (-1) 6, fun _ => 0, fun _ => 0, fun _ => 0, fun _ => 0, fun _ => 0, fun _ => 0, fun _ => 0, fl_f 5 6, fl_f 10 6, fl_f 5 6, fl_f (-1) 6, fun _ => 0, fun _ => 0, fun _ => 0, fun _ => 0, fun _ => 0, fun _ => 0, fun _ => 0, fun _ => 0, fun _ => 0, fun _ => 0, fun _ => 0, fun _ => 0, fun _ => 0, fun _ => 0, fun _ => 0)
    (nI 0, nI 0, nI 0, nI 0, fun _ => 0, fl_f 1 6, fl_f 1 6, fl_f (-1) 6, fun _ => 0, fun _ => 0, fun _ => 0, fun _ => 0, fun _ => 0, fun _ => 0, fl_f 1 6, fun _ => 0, fun _ => 0, se_0, fl_f 5 6, fl_f 10 6, fl_f 5 6, fl_f (-1) 6, fun _ => 0, fun _ => 0, fun _ => 0, fun _ => 0, fun _ => 0, fun _ => 0, fun _ => 0, fun _ => 0, fun _ => 0, fun _ => 0, fun _ => 0, fun _ => 0, fun _ => 0, fun _ => 0, fun _ => 0, fun _ => 0, fun _ => 0, fun _ => 0) :=
  ⟨0, 0, 0, 0, by omega, by omega, by omega, md_mk (qn := fun _ => 0) in_set in_cli in_srv ⟨by omega, fun j hj => absurd hj (Nat.not_lt_zero _)⟩ (fun s _ => ⟨0, Nat.le_refl _, Or.inl ⟨rfl, rfl, rfl⟩⟩)
    (fun q _ => ⟨⟨0, by decide, rfl⟩, ⟨0, by decide, rfl⟩, ⟨0, by decide, rfl⟩, fun h => absurd h (by decide)⟩) ⟨fun _ _ _ => rfl, fun s _ => by rw [rn_z]; rfl⟩
    ⟨Nat.le_refl _, Nat.le_refl _, by omega, fun _ _ => rfl, fun j hj => by rcases hj with hj | hj <;> omega, fun i j hi _ _ => by rcases hi with hi | hi <;> omega⟩ ⟨rfl, rfl⟩⟩
theorem i_vc0 : wpX_init (fun u => wpY_init (fun v => i_Rel 0 u v)) := by
  refine nm_r in_e0 (nm_e (nm_e (nm_e (nm_e (nm_e (nm_r in_e6 ⟨7, in_X2 _ ?_ 6 0 7 rfl (by omega)⟩))))))
  exact ⟨7, in_Y _ in_R 6 0 7 rfl (by omega)⟩
end
