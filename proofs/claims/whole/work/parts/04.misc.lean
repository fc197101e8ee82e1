/-! small rows on numbers -/
theorem ms_o32 : ∀ m : Fin 32, (nI m.val - 32) &&& 31 = nI m.val := by decide +kernel
theorem ms_old {nx i : Nat} (h : nx + i < 2 ^ 31) : (nI nx - 32 + nI i) &&& 31 = nI ((nx + i) % 32) := by
  have e : nI nx - 32 + nI i = nI (nx + i) - 32 := by
    rw [← nI_add, Int32.sub_eq_add_neg, Int32.sub_eq_add_neg, Int32.add_assoc, Int32.add_comm (-32), ← Int32.add_assoc]
  rw [e]
  by_cases z : nx + i < 32
  · rw [Nat.mod_eq_of_lt z]
    exact ms_o32 ⟨nx + i, z⟩
  · rw [show (32 : Int32) = nI 32 from rfl, pk_sub (by omega), pk_andN (by omega) 5 (by decide)]
    exact congrArg nI (by omega)
theorem ms_slot {m : Nat} (h : m < 2 ^ 31) : nI m &&& 31 = nI (m % 32) := pk_andN (by omega) 5 (by decide)
theorem ms_rem {m : Nat} (h : m < 2 ^ 31) : nI m - nI m / 32 * 32 = nI (m % 32) := pk_rem (d := 32) h (by decide) (by decide)
theorem ms_lsub {a b : Nat} (ha : a < 2 ^ 31) (hb : b < 2 ^ 31) : (lN a - lN b).toInt = (a : Int) - b := by
  rw [Int64.toInt_sub, pk_lT (by omega), pk_lT (by omega)]
  exact Int.bmod_eq_of_le (by omega) (by omega)
theorem ms_keptL {r nx : Nat} (hr : r < 2 ^ 31) (hn : nx < 2 ^ 31) : lN nx - 32 ≤ (nI r).toInt64 ↔ nx ≤ r + 32 := by
  rw [nI_l hr, Int64.le_iff_toInt_le, show (32 : Int64) = lN 32 from rfl, ms_lsub hn (by decide), pk_lT (by omega)]
  omega
theorem ms_keptI {r nx : Nat} (hr : r < 2 ^ 31) (hn : nx < 2 ^ 30) : nI nx - 32 ≤ nI r ↔ nx ≤ r + 32 := by
  rw [Int32.le_iff_toInt_le, show (32 : Int32) = nI 32 from rfl, pk_sub_toInt hn (by decide), nI_toInt hr]
  omega
theorem ms_keptLt {r nx : Nat} (hr : r < 2 ^ 31) (hn : nx < 2 ^ 31) : (nI r).toInt64 < lN nx ↔ r < nx := by
  rw [nI_l hr, pk_lLT (by omega) (by omega)]
theorem ms_comm {f : Nat → Int64} {i j : Nat} {x y : Int64} (h : i ≠ j) : vp_updL (vp_updL f i x) j y = vp_updL (vp_updL f j y) i x := by
  funext k
  unfold vp_updL
  by_cases a : k = j
  · by_cases b : k = i
    · exact absurd (b.symm.trans a) h
    · rw [if_pos a, if_neg b, if_pos a]
  · rw [if_neg a, if_neg a]
theorem ms_lt2 {x : Int32} : x < 2 ↔ x ≤ 1 := by
  rw [Int32.lt_iff_toInt_lt, Int32.le_iff_toInt_le, show (2 : Int32).toInt = 2 from by decide, show (1 : Int32).toInt = 1 from by decide]
  omega
theorem ms_ltle {x : Int32} : ¬ x ≤ -1 ↔ 0 ≤ x := by
  rw [Int32.le_iff_toInt_le, Int32.le_iff_toInt_le, show (-1 : Int32).toInt = -1 from by decide, show (0 : Int32).toInt = 0 from by decide]
  omega
theorem ms_m1 : (-1 : Int32) < 0 := by decide
theorem ms_nb1 : vp_nar .boolean 1 = 1 := by decide
theorem ms_nb0 : vp_nar .boolean 0 = 0 := by decide
theorem ms_nI_m1 {n : Nat} (h : n < 2 ^ 31) : ¬ nI n = -1 := by
  intro e
  have := congrArg Int32.toInt e
  rw [nI_toInt h, show (-1 : Int32).toInt = -1 from by decide] at this
  omega
theorem ms_ge0_m1 {x : Int32} (h : 0 ≤ x) : ¬ x = -1 := by
  intro e
  rw [e] at h
  exact absurd h (by decide)
theorem ms_i0 : (0 : Int32).toInt = 0 := by decide
theorem ms_i1 : (1 : Int32).toInt = 1 := by decide
theorem ms_i2 : (2 : Int32).toInt = 2 := by decide
theorem ms_im1 : (-1 : Int32).toInt = -1 := by decide
theorem ms_im2 : (-2 : Int32).toInt = -2 := by decide
theorem ck_b {B a : Nat} {f si w : Int32} (hB : B < 2 ^ 30) (ha : a ≤ B) (h : (f = nI a ∧ si = nI a ∧ w = 0) ∨ (f = -nI a ∧ si = 0 ∧ w = nI a)) :
    ∃ c : Nat, c ≤ B + 1 ∧ si + 1 = nI c ∧ (0 < f → f + 1 = nI c) ∧ (¬ 0 < f → 1 = nI c) := by
  rcases h with ⟨h1, h2, h3⟩ | ⟨h1, h2, h3⟩
  · refine ⟨a + 1, by omega, by rw [h2, nI_1], fun _ => by rw [h1, nI_1], fun hn => ?_⟩
    rw [h1, Int32.lt_iff_toInt_lt, ms_i0, nI_toInt (by omega)] at hn
    rw [show a = 0 from by omega]; rfl
  · refine ⟨1, by omega, by rw [h2]; rfl, fun hp => ?_, fun _ => rfl⟩
    rw [h1, Int32.lt_iff_toInt_lt, ms_i0, iv_neg (by omega)] at hp
    omega
theorem ck_w {B a : Nat} {f si w : Int32} (hB : B < 2 ^ 30) (ha : a ≤ B) (h : (f = nI a ∧ si = nI a ∧ w = 0) ∨ (f = -nI a ∧ si = 0 ∧ w = nI a)) :
    ∃ c : Nat, c ≤ B + 1 ∧ w + 1 = nI c ∧ (f < 0 → f - 1 = -nI c) ∧ (¬ f < 0 → -1 = -nI c) := by
  rcases h with ⟨h1, h2, h3⟩ | ⟨h1, h2, h3⟩
  · refine ⟨1, by omega, by rw [h3]; rfl, fun hp => ?_, fun _ => rfl⟩
    rw [h1, Int32.lt_iff_toInt_lt, ms_i0, nI_toInt (by omega)] at hp
    omega
  · refine ⟨a + 1, by omega, by rw [h3, nI_1], fun _ => ?_, fun hn => ?_⟩
    · rw [h1, ← nI_1, Int32.neg_add, Int32.sub_eq_add_neg]
    · rw [h1, Int32.lt_iff_toInt_lt, ms_i0, iv_neg (by omega)] at hn
      rw [show a = 0 from by omega]; rfl
theorem ck_t1 {a : Nat} (h : a < 2 ^ 31) : 2 ≤ nI a ↔ 1 < nI a := by
  rw [Int32.le_iff_toInt_le, Int32.lt_iff_toInt_lt, ms_i1, ms_i2, nI_toInt h]; omega
theorem ck_t2 {a : Nat} (h : a < 2 ^ 31) : ¬ 2 ≤ -nI a := by
  rw [Int32.le_iff_toInt_le, ms_i2, iv_neg h]; omega
theorem ck_t3 {a : Nat} (h : a < 2 ^ 31) : -nI a ≤ -2 ↔ 1 < nI a := by
  rw [Int32.le_iff_toInt_le, Int32.lt_iff_toInt_lt, ms_i1, ms_im2, nI_toInt h, iv_neg h]; omega
theorem ck_t4 {a : Nat} (h : a < 2 ^ 31) : ¬ nI a ≤ -2 := by
  rw [Int32.le_iff_toInt_le, ms_im2, nI_toInt h]; omega
theorem ck_t5 : ¬ (1 : Int32) < 0 := by decide
