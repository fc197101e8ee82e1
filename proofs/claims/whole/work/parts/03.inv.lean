/-! the invariants, a group for the arrays that it speaks of -/
def iv_set (se : Nat → Int32) : Prop := ¬ se 4 = 0 ∧ 0 ≤ se 6 ∧ ∃ r : Nat, r ≤ 1000 ∧ se 3 = nI r
def iv_cli (re ho : Nat → Int32) : Prop := ∀ c, c < 6 → ¬ re c = 0 ∧ (ho c = -1 ∨ ∃ h : Nat, h < 6 ∧ ho c = nI h)
def iv_srv (we ti : Nat → Int32) : Prop := ∀ s, s < 6 → (∃ w : Nat, w < 10 ∧ we s = nI w) ∧ (ti s = -1 ∨ 0 ≤ ti s)
def iv_rt (rc : Nat) (rs : Nat → Int32) : Prop := rc ≤ 12 ∧ ∀ j, j < rc → 0 ≤ rs j
def iv_fnd (B : Nat) (fi si wl : Nat → Int32) : Prop := ∀ s, s < 6 → ∃ a : Nat, a ≤ B ∧ ((fi s = nI a ∧ si s = nI a ∧ wl s = 0) ∨ (fi s = -nI a ∧ si s = 0 ∧ wl s = nI a))
def iv_req (cl ky pt st at_ : Nat → Int32) : Prop := ∀ q, q < 32 → (∃ c : Nat, c < 6 ∧ cl q = nI c) ∧ (∃ k : Nat, k < 256 ∧ ky q = nI k) ∧ (∃ p : Nat, p < 4096 ∧ pt q = nI p) ∧ (st q = 1 → ∃ s : Nat, s < 6 ∧ at_ q = nI s)
def iv_run (nxt : Nat) (st at_ ru : Nat → Int32) : Prop := (∀ q, nxt ≤ q → q < 32 → st q = 0) ∧ ∀ s, s < 6 → ru s = nI (rn_cnt st at_ (nI s) 32)
def iv_tot (nxt dn : Nat) (to : Nat → Int64) : Prop := to 0 = lN nxt ∧ to 2 = lN dn
def iv_qs (l k w j : Nat) : Prop := j < l ∨ (k ≤ j ∧ j < w)
def iv_q (l k w nxt : Nat) (qn : Nat → Nat) (qx qy st : Nat → Int32) : Prop :=
  l ≤ k ∧ k ≤ w ∧ w ≤ 8 ∧ (∀ j, j < 8 → qy j = qx j) ∧ (∀ j, iv_qs l k w j → qx j = nI (qn j) ∧ qn j < nxt ∧ st (qn j % 32) = 0) ∧
  (∀ i j, iv_qs l k w i → iv_qs l k w j → i ≠ j → qn i % 32 ≠ qn j % 32)
theorem iv_q_st {l k w nxt : Nat} {qn : Nat → Nat} {qx qy st : Nat → Int32} {q : Nat} {x : Int32} (h : iv_q l k w nxt qn qx qy st) (hq : ∀ j, iv_qs l k w j → qn j % 32 ≠ q) : iv_q l k w nxt qn qx qy (upd st q x) := by
  obtain ⟨h1, h2, h3, h4, h5, h6⟩ := h
  refine ⟨h1, h2, h3, h4, fun j hj => ?_, h6⟩
  obtain ⟨a, b, c⟩ := h5 j hj
  exact ⟨a, b, by rw [pk_un (hq j hj)]; exact c⟩
theorem iv_q_ne {l k w nxt : Nat} {qn : Nat → Nat} {qx qy st : Nat → Int32} {q : Nat} {x : Int32} (h : iv_q l k w nxt qn qx qy st) (hq : ¬ st q = 0) : iv_q l k w nxt qn qx qy (upd st q x) :=
  iv_q_st h (fun j hj e => hq (by rw [← e]; exact (h.2.2.2.2.1 j hj).2.2))
theorem iv_q_drop {l k w nxt : Nat} {qn : Nat → Nat} {qx qy st : Nat → Int32} {x : Int32} (h : iv_q l k w nxt qn qx qy st) (hk : k < w) : iv_q l (k + 1) w nxt qn qx qy (upd st (qn k % 32) x) := by
  obtain ⟨h1, h2, h3, h4, h5, h6⟩ := h
  have sub : ∀ j, iv_qs l (k + 1) w j → iv_qs l k w j ∧ j ≠ k := by
    intro j hj
    rcases hj with hj | hj
    · exact ⟨Or.inl hj, by omega⟩
    · exact ⟨Or.inr ⟨by omega, hj.2⟩, by omega⟩
  have hk' : iv_qs l k w k := Or.inr ⟨Nat.le_refl _, hk⟩
  refine ⟨by omega, by omega, h3, h4, fun j hj => ?_, fun i j hi hj => h6 i j (sub i hi).1 (sub j hj).1⟩
  obtain ⟨a, b, c⟩ := h5 j (sub j hj).1
  exact ⟨a, b, by rw [pk_un (h6 j k (sub j hj).1 hk' (sub j hj).2)]; exact c⟩
theorem iv_q_keep {l k w nxt : Nat} {qn : Nat → Nat} {qx qy st : Nat → Int32} (h : iv_q l k w nxt qn qx qy st) (hk : k < w) : iv_q (l + 1) (k + 1) w nxt (fun j => if j = l then qn k else qn j) (upd qx l (qx k)) (upd qy l (qy k)) st := by
  obtain ⟨h1, h2, h3, h4, h5, h6⟩ := h
  have hk' : iv_qs l k w k := Or.inr ⟨Nat.le_refl _, hk⟩
  have sub : ∀ j, iv_qs (l + 1) (k + 1) w j → (j = l ∨ (j ≠ l ∧ iv_qs l k w j ∧ j ≠ k)) := by
    intro j hj
    by_cases e : j = l
    · exact Or.inl e
    · rcases hj with hj | hj
      · exact Or.inr ⟨e, Or.inl (by omega), by omega⟩
      · exact Or.inr ⟨e, Or.inr ⟨by omega, hj.2⟩, by omega⟩
  refine ⟨by omega, by omega, h3, fun j hj => ?_, fun j hj => ?_, fun i j hi hj hij => ?_⟩
  · by_cases e : j = l
    · rw [e, pk_us, pk_us]; exact h4 k (by omega)
    · rw [pk_un e, pk_un e]; exact h4 j hj
  · rcases sub j hj with e | ⟨e, hs, _⟩
    · rw [e, pk_us]; dsimp only; rw [if_pos rfl]; exact h5 k hk'
    · rw [pk_un e]; dsimp only; rw [if_neg e]; exact h5 j hs
  · dsimp only
    rcases sub i hi with e | ⟨e, hs, hn⟩
    · rcases sub j hj with e' | ⟨e', hs', hn'⟩
      · exact absurd (e.trans e'.symm) hij
      · rw [if_pos e, if_neg e']; exact h6 k j hk' hs' (Ne.symm hn')
    · rcases sub j hj with e' | ⟨e', hs', hn'⟩
      · rw [if_neg e, if_pos e']; exact h6 i k hs hk' hn
      · rw [if_neg e, if_neg e']; exact h6 i j hs hs' hij
theorem iv_q_end {l w nxt : Nat} {qn : Nat → Nat} {qx qy st : Nat → Int32} (h : iv_q l w w nxt qn qx qy st) : iv_q 0 0 l nxt qn qx qy st := by
  obtain ⟨h1, h2, h3, h4, h5, h6⟩ := h
  have sub : ∀ j, iv_qs 0 0 l j → iv_qs l w w j := by
    intro j hj
    rcases hj with hj | hj
    · exact absurd hj (Nat.not_lt_zero _)
    · exact Or.inl hj.2
  exact ⟨Nat.le_refl _, Nat.zero_le _, by omega, h4, fun j hj => h5 j (sub j hj), fun i j hi hj => h6 i j (sub i hi) (sub j hj)⟩
theorem iv_run_same {nxt : Nat} {st at_ ru : Nat → Int32} {q : Nat} {w : Int32} (h : iv_run nxt st at_ ru) (hq : q < nxt) (h32 : q < 32) (h0 : ¬ st q = 1) (hw : ¬ w = 1) : iv_run nxt (upd st q w) at_ ru := by
  refine ⟨fun j hj h32 => by rw [pk_un (by omega)]; exact h.1 j hj h32, fun s hs => ?_⟩
  have e := rn_upd (st := st) (a := at_) (s := nI s) (w := w) (b := at_ q) 32 h32
  rw [ud_same, if_neg (fun z => h0 z.1), if_neg (fun z => hw z.1)] at e
  rw [h.2 s hs]
  exact congrArg nI e.symm
theorem iv_run_enter {nxt : Nat} {st at_ ru : Nat → Int32} {q : Nat} {w b : Int32} (h : iv_run nxt st at_ ru) (hq : q < nxt + 1) (h32 : q < 32) (h0 : ¬ st q = 1) (hw : ¬ w = 1) : iv_run (nxt + 1) (upd st q w) (upd at_ q b) ru := by
  refine ⟨fun j hj h32 => by rw [pk_un (by omega)]; exact h.1 j (by omega) h32, fun s hs => ?_⟩
  have e := rn_upd (st := st) (a := at_) (s := nI s) (w := w) (b := b) 32 h32
  rw [if_neg (fun z => h0 z.1), if_neg (fun z => hw z.1)] at e
  rw [h.2 s hs]
  exact congrArg nI e.symm
theorem iv_inj6 {a b : Nat} (ha : a < 6) (hb : b < 6) (h : nI a = nI b) : a = b := (nI_eq (by omega) (by omega)).mp h
theorem iv_run_start {nxt : Nat} {st at_ ru : Nat → Int32} {q s : Nat} (h : iv_run nxt st at_ ru) (hq : q < nxt) (h32 : q < 32) (hs : s < 6) (h0 : ¬ st q = 1) : iv_run nxt (upd st q 1) (upd at_ q (nI s)) (upd ru s (ru s + 1)) := by
  refine ⟨fun j hj h32 => by rw [pk_un (by omega)]; exact h.1 j hj h32, fun r hr => ?_⟩
  have e := rn_upd (st := st) (a := at_) (s := nI r) (w := 1) (b := nI s) 32 h32
  rw [if_neg (fun z => h0 z.1)] at e
  by_cases x : r = s
  · subst x
    rw [if_pos ⟨rfl, rfl⟩] at e
    rw [pk_us, h.2 r hr, nI_1]
    exact congrArg nI e.symm
  · rw [if_neg (fun z => x (iv_inj6 hs hr z.2).symm)] at e
    rw [pk_un x, h.2 r hr]
    exact congrArg nI e.symm
theorem iv_run_stop {nxt : Nat} {st at_ ru : Nat → Int32} {q s : Nat} {w : Int32} (h : iv_run nxt st at_ ru) (hq : q < nxt) (h32 : q < 32) (hs : s < 6) (h1 : st q = 1) (ha : at_ q = nI s) (hw : ¬ w = 1) : iv_run nxt (upd st q w) at_ (upd ru s (ru s - 1)) := by
  refine ⟨fun j hj h32 => by rw [pk_un (by omega)]; exact h.1 j hj h32, fun r hr => ?_⟩
  have e := rn_upd (st := st) (a := at_) (s := nI r) (w := w) (b := at_ q) 32 h32
  rw [ud_same, if_neg (c := w = 1 ∧ _) (fun z => hw z.1)] at e
  by_cases x : r = s
  · subst x
    rw [if_pos ⟨h1, ha⟩] at e
    have e' : rn_cnt st at_ (nI r) 32 = rn_cnt (upd st q w) at_ (nI r) 32 + 1 := e.symm
    rw [pk_us, h.2 r hr, e']
    exact nI_pred _
  · rw [if_neg (fun z => x (iv_inj6 hs hr (ha.symm.trans z.2)).symm)] at e
    rw [pk_un x, h.2 r hr]
    exact congrArg nI e.symm
theorem iv_req_st {cl ky pt st at_ : Nat → Int32} {q : Nat} {w : Int32} (h : iv_req cl ky pt st at_) (hw : ¬ w = 1) : iv_req cl ky pt (upd st q w) at_ := by
  intro j hj
  obtain ⟨a, b, c, d⟩ := h j hj
  refine ⟨a, b, c, fun e => ?_⟩
  by_cases x : j = q
  · rw [x, pk_us] at e; exact absurd e hw
  · rw [pk_un x] at e; exact d e
theorem iv_req_start {cl ky pt st at_ : Nat → Int32} {q s : Nat} {w : Int32} (h : iv_req cl ky pt st at_) (hs : s < 6) : iv_req cl ky pt (upd st q w) (upd at_ q (nI s)) := by
  intro j hj
  obtain ⟨a, b, c, d⟩ := h j hj
  refine ⟨a, b, c, fun e => ?_⟩
  by_cases x : j = q
  · rw [x, pk_us]; exact ⟨s, hs, rfl⟩
  · rw [pk_un x] at e ⊢; exact d e
theorem iv_fnd_le {B C : Nat} {fi si wl : Nat → Int32} (h : iv_fnd B fi si wl) (hB : B ≤ C) : iv_fnd C fi si wl := by
  intro s hs
  obtain ⟨a, ha, r⟩ := h s hs
  exact ⟨a, Nat.le_trans ha hB, r⟩
theorem iv_neg {w : Nat} (h : w < 2 ^ 31) : (-nI w).toInt = -(w : Int) := by
  rw [Int32.toInt_neg, nI_toInt h]
  exact Int.bmod_eq_of_le (by omega) (by omega)
