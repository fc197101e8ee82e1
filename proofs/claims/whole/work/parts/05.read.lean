/-! what both sides read: routes, counts, readiness -/
theorem fu_l {W : Nat → Prop} {d n : Nat} (hn : d < n) (h : ∀ m, d ≤ m → W (m + 1)) : W n := by
  obtain ⟨m, rfl⟩ : ∃ m, n = m + 1 := ⟨n - 1, by omega⟩
  exact h m (by omega)
theorem fu_m {d n : Nat} (hn : d < n) : ∃ m, n = m + 1 ∧ d ≤ m := ⟨n - 1, by omega, by omega⟩
theorem rd_1n0 : ¬ (1 : Int32) = 0 := by decide
theorem rd_y0 {P : Int32 → Prop} {v lo hi : Int32} (h1 : v < lo ∨ hi < v) (h : P 0) : wpY_in P v lo hi := by
  by_cases a : v < lo
  · exact br_t a h
  · exact br_f a (br_t (h1.resolve_left a) h)
theorem rd_y1 {P : Int32 → Prop} {v lo hi : Int32} (h1 : ¬ v < lo) (h2 : ¬ hi < v) (h : P 1) : wpY_in P v lo hi := br_f h1 (br_f h2 h)
theorem rd_yn {P : Int32 → Prop} {j a b : Nat} (ha : a ≤ j) (hb : j ≤ b) (hj : b < 2 ^ 31) (h : P 1) : wpY_in P (nI j) (nI a) (nI b) :=
  rd_y1 (nI_nlt ha (by omega)) (nI_nlt hb hj) h
theorem rd_lt6 {v : Int32} : 5 < v ↔ nI 6 ≤ v := by
  rw [Int32.lt_iff_toInt_lt, Int32.le_iff_toInt_le, show (5 : Int32).toInt = 5 from by decide, show (nI 6).toInt = 6 from by decide]
  omega
theorem rd_yo6 {P : Int32 → Prop} {v : Int32} (h1 : v < 0 ∨ nI 6 ≤ v) (h : P 0) : wpY_in P v 0 5 := rd_y0 (h1.imp id rd_lt6.mpr) h
theorem rd_y6 {P : Int32 → Prop} {s : Nat} (hs : s < 6) (h : P 1) : wpY_in P (nI s) 0 5 := rd_yn (a := 0) (b := 5) (by omega) (by omega) (by decide) h
theorem rd_so {P : Int32 → Prop} {v : Int32} (h1 : v < 0 ∨ nI 6 ≤ v) (h : P 0) : wpX_isServer P v := by
  by_cases a : v < 0
  · exact br_t a h
  · exact br_f a (br_t (h1.resolve_left a) h)
theorem rd_co {P : Int32 → Prop} {v : Int32} (h1 : v < 0 ∨ nI 6 ≤ v) (h : P 0) : wpX_isClient P v := by
  by_cases a : v < 0
  · exact br_t a h
  · exact br_f a (br_t (h1.resolve_left a) h)
theorem rd_s1 {P : Int32 → Prop} {s : Nat} (hs : s < 6) (h : P 1) : wpX_isServer P (nI s) := br_f (nI_pos (by omega)) (br_f (nI_ge (b := 6) hs (by decide)) h)
theorem rd_c1 {P : Int32 → Prop} {s : Nat} (hs : s < 6) (h : P 1) : wpX_isClient P (nI s) := br_f (nI_pos (by omega)) (br_f (nI_ge (b := 6) hs (by decide)) h)
/-- is it a path: both sides say the same -/
theorem ip_loop : ∀ d l p : Nat, l + d = 4 → p < 8 ^ d → ∃ r : Int32, (r = 0 ∨ r = 1) ∧
    (∀ (P : Int32 → Prop) (n : Nat), d < n → P r → wX_isPath_17 P n (nI p) (nI l)) ∧ (∀ (P : Int32 → Prop) (n : Nat), d < n → P r → wY_isPath_15 P n (nI p)) := by
  intro d
  induction d with
  | zero =>
    intro l p hl hp
    have e : p = 0 := by omega
    subst e
    exact ⟨1, Or.inr rfl, fun P n hn h => (by obtain ⟨m, rfl, hm_⟩ := fu_m hn; exact br_t (nI_le (a := 4) (by omega) (by omega)) h), fun P n hn h => (by obtain ⟨m, rfl, hm_⟩ := fu_m hn; exact br_t (by decide) h)⟩
  | succ d ih =>
    intro l p hl hp
    have hp8 : p / 8 < 8 ^ d := by rw [Nat.pow_succ] at hp; omega
    have hd : 8 ^ (d + 1) ≤ 8 ^ 4 := Nat.pow_le_pow_right (by decide) (by omega)
    have hp' : p < 4096 := Nat.lt_of_lt_of_le hp hd
    have hl4 : ¬ (4 : Int32) ≤ nI l := nI_ge (b := 4) (by omega) (by decide)
    obtain ⟨r, h0, hX, hY⟩ := ih (l + 1) (p / 8) (by omega) hp8
    have es : nI p >>> ((3 : Int32) &&& 31) = nI (p / 8) := pk_shrN (by omega) _ 3 (by decide)
    by_cases z : p = 0
    · subst z
      refine ⟨r, h0, fun P n hn h => (by obtain ⟨m, rfl, hm⟩ := fu_m hn; exact br_f hl4 (br_t rfl (nm_r es (nm_r (nI_1 l) (hX P m (by omega) h))))), fun P n hn h => hY P n (by omega) h⟩
    · have zn : ¬ nI p = 0 := nI_ne0 (by omega) (by omega)
      have zl : ¬ nI p ≤ 0 := nI_nle (by omega) (by omega)
      have ea : nI p &&& 7 = nI (p % 8) := pk_andN (by omega) 3 (by decide)
      have er : nI p - nI p / 8 * 8 = nI (p % 8) := pk_rem (d := 8) (by omega) (by decide) (by decide)
      have ed : nI p / 8 = nI (p / 8) := pk_div (d := 8) (by omega) (by decide) (by decide)
      have h8 : ¬ (8 : Int32) = 0 := by decide
      by_cases y : p % 8 = 0
      · have ya : nI p &&& 7 = 0 := by rw [ea, y]; rfl
        have yr : nI p - nI p / 8 * 8 = 0 := by rw [er, y]; rfl
        exact ⟨0, Or.inl rfl, fun P n hn h => (by obtain ⟨m, rfl, hm⟩ := fu_m hn; exact br_f hl4 (br_f zn (br_t ya h))), fun P n hn h => (by obtain ⟨m, rfl, hm⟩ := fu_m hn; exact br_f zl ⟨h8, br_t yr h⟩)⟩
      · have ya : ¬ nI p &&& 7 = 0 := by rw [ea]; exact nI_ne0 (by omega) (by omega)
        have yr : ¬ nI p - nI p / 8 * 8 = 0 := by rw [er]; exact nI_ne0 (by omega) (by omega)
        exact ⟨r, h0, fun P n hn h => (by obtain ⟨m, rfl, hm⟩ := fu_m hn; exact br_f hl4 (br_f zn (br_f ya (nm_r es (nm_r (nI_1 l) (hX P m (by omega) h)))))),
          fun P n hn h => (by obtain ⟨m, rfl, hm⟩ := fu_m hn; exact br_f zl ⟨h8, br_f yr ⟨h8, nm_r ed (hY P m (by omega) h)⟩⟩)⟩
theorem ip_pair (p : Int32) : (∃ j : Nat, j < 4096 ∧ p = nI j ∧ ∃ r : Int32, (r = 0 ∨ r = 1) ∧ (∀ P : Int32 → Prop, P r → wpX_isPath P p) ∧ (∀ P : Int32 → Prop, P r → wpY_isPath P p)) ∨
    ((∀ P : Int32 → Prop, P 0 → wpX_isPath P p) ∧ (∀ P : Int32 → Prop, P 0 → wpY_isPath P p)) := by
  have l1 : ∀ {x : Int32}, nI 4096 ≤ x → 4095 < x := by
    intro x h
    rw [Int32.le_iff_toInt_le, show (nI 4096).toInt = 4096 from by decide] at h
    rw [Int32.lt_iff_toInt_lt, show (4095 : Int32).toInt = 4095 from by decide]
    omega
  rcases pk_ix p (n := 4096) (by decide) with h | h | ⟨j, hj, rfl⟩
  · exact Or.inr ⟨fun P hp => br_t h hp, fun P hp => rd_y0 (Or.inl h) (br_t rfl hp)⟩
  · have h0 : ¬ p < 0 := fun z => Int32.lt_irrefl (Int32.lt_trans (Int32.lt_of_lt_of_le z (by decide : (0 : Int32) ≤ 4095)) (l1 h))
    have h1 : ¬ p < 4096 := Int32.not_lt.mpr h
    exact Or.inr ⟨fun P hp => br_f h0 (br_f h1 hp), fun P hp => rd_y0 (Or.inr (l1 h)) (br_t rfl hp)⟩
  · obtain ⟨r, h0, hX, hY⟩ := ip_loop 4 0 j rfl hj
    exact Or.inl ⟨j, hj, rfl, r, h0, fun P hp => br_f (nI_pos (by omega)) (br_t (nI_lt (b := 4096) hj (by decide)) ⟨5, hX P 5 (by omega) hp⟩),
      fun P hp => rd_yn (a := 0) (b := 4095) (by omega) (by omega) (by decide) (br_f rd_1n0 ⟨5, hY P 5 (by omega) hp⟩)⟩
section
variable (now rc ql nx : Nat) (zae zal zan zat zbr zca zcl zcm zcr zen zfa zfi zho zhs zky zpa zpt zqx zqy zra zre zrp zrs zru zse zsi zsl zso zst zsu zsy zti ztk ztr ztu zup zwe zwl zwo : Nat → Int32) (zto : Nat → Int64)
theorem fr_loop (hr : rc ≤ 12) (p : Int32) : ∀ d j : Nat, j + d = rc → ∃ r : Int32, (r = -1 ∨ ∃ i : Nat, i < rc ∧ r = nI i) ∧
    (∀ (P : Int32 → Prop) (n : Nat), d < n → P r → wX_findRoute_2 P p (nI now) (nI rc) (nI ql) zse zto ztu zwe zsl zpa zbr zup zti zfa zcr zru zsu zfi zrp zrs zca zre ztk zho zhs zst zcl zpt zky zwo zra zcm zen zat zan ztr zae zal zqx n (nI j)) ∧ (∀ (P : Int32 → Prop) (n : Nat), d < n → P r → wY_findRoute_2 P p (nI now) (nI rc) (nI nx) (nI ql) zwe zsl zpa zti zfa zcr zsu zsi zwl zbr zup zrp zrs zse zca zre ztk zho zhs zcl zpt zky zwo zra zsy zat zan ztr zcm zen zae zal zqy zto ztu zso n (nI j)) := by
  intro d
  induction d with
  | zero =>
    intro j hj
    have h : nI rc ≤ nI j := nI_le (by omega) (by omega)
    exact ⟨-1, Or.inl rfl, fun P n hn hp => (by obtain ⟨m, rfl, hm_⟩ := fu_m hn; exact br_t h hp), fun P n hn hp => (by obtain ⟨m, rfl, hm_⟩ := fu_m hn; exact br_t h hp)⟩
  | succ d ih =>
    intro j hj
    have h : ¬ nI rc ≤ nI j := nI_ge (by omega) (by omega)
    have hi : vp_in (nI j) 12 := vp_in_nI (by omega) (by omega)
    by_cases z : zrp (nI j).toNatClampNeg = p
    · exact ⟨nI j, Or.inr ⟨j, by omega, rfl⟩, fun P n hn hp => (by obtain ⟨m, rfl, hm_⟩ := fu_m hn; exact br_f h ⟨hi, br_t z hp⟩), fun P n hn hp => (by obtain ⟨m, rfl, hm_⟩ := fu_m hn; exact br_f h ⟨hi, br_t z hp⟩)⟩
    · obtain ⟨r, h0, hX, hY⟩ := ih (j + 1) (by omega)
      exact ⟨r, h0, fun P n hn hp => (by obtain ⟨m, rfl, hm⟩ := fu_m hn; exact br_f h ⟨hi, br_f z (nm_r (nI_1 j) (hX P m (by omega) hp))⟩), fun P n hn hp => (by obtain ⟨m, rfl, hm⟩ := fu_m hn; exact br_f h ⟨hi, br_f z (nm_r (nI_1 j) (hY P m (by omega) hp))⟩)⟩
theorem fr_pair (hr : rc ≤ 12) (p : Int32) : ∃ r : Int32, (r = -1 ∨ ∃ i : Nat, i < rc ∧ r = nI i) ∧
    (∀ P : Int32 → Prop, P r → wpX_findRoute P (nI now, nI rc, nI ql, zse, zto, ztu, zwe, zsl, zpa, zbr, zup, zti, zfa, zcr, zru, zsu, zfi, zrp, zrs, zca, zre, ztk, zho, zhs, zst, zcl, zpt, zky, zwo, zra, zcm, zen, zat, zan, ztr, zae, zal, zqx) p) ∧ (∀ P : Int32 → Prop, P r → wpY_findRoute P (nI now, nI rc, nI nx, nI ql, zwe, zsl, zpa, zti, zfa, zcr, zsu, zsi, zwl, zbr, zup, zrp, zrs, zse, zca, zre, ztk, zho, zhs, zcl, zpt, zky, zwo, zra, zsy, zat, zan, ztr, zcm, zen, zae, zal, zqy, zto, ztu, zso) p) := by
  obtain ⟨r, h0, hX, hY⟩ := fr_loop now rc ql nx zae zal zan zat zbr zca zcl zcm zcr zen zfa zfi zho zhs zky zpa zpt zqx zqy zra zre zrp zrs zru zse zsi zsl zso zst zsu zsy zti ztk ztr ztu zup zwe zwl zwo zto hr p rc 0 (by omega)
  exact ⟨r, h0, fun P hp => ⟨rc + 1, hX P _ (by omega) hp⟩, fun P hp => ⟨rc + 1, hY P _ (by omega) hp⟩⟩
theorem sv_loop (hr : rc ≤ 12) : ∀ d c p : Nat, c + d = 4 → p < 8 ^ d → ∃ r s : Int32, ((r = -1 ∧ s = -1) ∨ ∃ i : Nat, i < rc ∧ r = nI i ∧ s = zrs i) ∧
    (∀ (P : Int32 → Prop) (n : Nat), d + 1 < n → P r → wX_routeOf_4 P (nI now) (nI rc) (nI ql) zse zto ztu zwe zsl zpa zbr zup zti zfa zcr zru zsu zfi zrp zrs zca zre ztk zho zhs zst zcl zpt zky zwo zra zcm zen zat zan ztr zae zal zqx n (nI p) (nI c)) ∧ (∀ (P : Int32 → Prop) (n : Nat), d < n → P s → wY_serversOf_2 P (nI now) (nI rc) (nI nx) (nI ql) zwe zsl zpa zti zfa zcr zsu zsi zwl zbr zup zrp zrs zse zca zre ztk zho zhs zcl zpt zky zwo zra zsy zat zan ztr zcm zen zae zal zqy zto ztu zso n (nI p)) := by
  intro d
  induction d with
  | zero =>
    intro c p hc hp
    have e : p = 0 := by omega
    subst e
    have hc4 : ¬ (4 : Int32) < nI c := nI_nlt (a := 4) (by omega) (by decide)
    have hc5 : (4 : Int32) < nI (c + 1) := nI_lt (a := 4) (by omega) (by omega)
    have es : nI 0 >>> ((3 : Int32) &&& 31) = nI 0 := by decide
    obtain ⟨r, h0, hX, hY⟩ := fr_pair now rc ql nx zae zal zan zat zbr zca zcl zcm zcr zen zfa zfi zho zhs zky zpa zpt zqx zqy zra zre zrp zrs zru zse zsi zsl zso zst zsu zsy zti ztk ztr ztu zup zwe zwl zwo zto hr (nI 0)
    rcases h0 with rfl | ⟨i, hi, rfl⟩
    · exact ⟨-1, -1, Or.inl ⟨rfl, rfl⟩, fun P n hn h => (by obtain ⟨m, rfl, hm⟩ := fu_m hn; exact br_f hc4 (hX _ (br_t rfl (nm_r es (nm_r (nI_1 c) ((by obtain ⟨m', rfl, hm_⟩ := fu_m (n := m) (d := 0) (show 0 < m by omega); exact br_t hc5 h))))))),
        fun P n hn h => (by obtain ⟨m, rfl, hm⟩ := fu_m hn; exact hY _ (br_t ms_m1 (br_t rfl h)))⟩
    · exact ⟨nI i, zrs i, Or.inr ⟨i, hi, rfl, rfl⟩, fun P n hn h => (by obtain ⟨m, rfl, hm⟩ := fu_m hn; exact br_f hc4 (hX _ (br_f (ms_nI_m1 (by omega)) h))),
        fun P n hn h => (by obtain ⟨m, rfl, hm⟩ := fu_m hn; exact hY _ (br_f (nI_pos (by omega)) ⟨vp_in_nI (by omega) (by omega), by rw [nI_clamp (by omega)]; exact h⟩))⟩
  | succ d ih =>
    intro c p hc hp
    have hp8 : p / 8 < 8 ^ d := by rw [Nat.pow_succ] at hp; omega
    have hd : 8 ^ (d + 1) ≤ 8 ^ 4 := Nat.pow_le_pow_right (by decide) (by omega)
    have hp' : p < 4096 := Nat.lt_of_lt_of_le hp hd
    have hc4 : ¬ (4 : Int32) < nI c := nI_nlt (a := 4) (by omega) (by decide)
    have es : nI p >>> ((3 : Int32) &&& 31) = nI (p / 8) := pk_shrN (by omega) _ 3 (by decide)
    have ed : nI p / 8 = nI (p / 8) := pk_div (d := 8) (by omega) (by decide) (by decide)
    have h8 : ¬ (8 : Int32) = 0 := by decide
    obtain ⟨r, h0, hX, hY⟩ := fr_pair now rc ql nx zae zal zan zat zbr zca zcl zcm zcr zen zfa zfi zho zhs zky zpa zpt zqx zqy zra zre zrp zrs zru zse zsi zsl zso zst zsu zsy zti ztk ztr ztu zup zwe zwl zwo zto hr (nI p)
    rcases h0 with rfl | ⟨i, hi, rfl⟩
    · obtain ⟨r', s', h0', hX', hY'⟩ := ih (c + 1) (p / 8) (by omega) hp8
      refine ⟨r', s', h0', fun P n hn h => (by obtain ⟨m, rfl, hm⟩ := fu_m hn; exact br_f hc4 (hX _ (br_t rfl (nm_r es (nm_r (nI_1 c) (hX' P m (by omega) h)))))), fun P n hn h => ?_⟩
      by_cases z : p = 0
      · subst z
        exact hY' P n (by omega) h
      · exact (by obtain ⟨m, rfl, hm⟩ := fu_m hn; exact hY _ (br_t ms_m1 (br_f (nI_ne0 (by omega) (by omega)) ⟨h8, nm_r ed (hY' P m (by omega) h)⟩)))
    · exact ⟨nI i, zrs i, Or.inr ⟨i, hi, rfl, rfl⟩, fun P n hn h => (by obtain ⟨m, rfl, hm⟩ := fu_m hn; exact br_f hc4 (hX _ (br_f (ms_nI_m1 (by omega)) h))),
        fun P n hn h => (by obtain ⟨m, rfl, hm⟩ := fu_m hn; exact hY _ (br_f (nI_pos (by omega)) ⟨vp_in_nI (by omega) (by omega), by rw [nI_clamp (by omega)]; exact h⟩))⟩
theorem sv_pair (hr : rc ≤ 12) {p : Nat} (hp : p < 4096) : ∃ r s : Int32, ((r = -1 ∧ s = -1) ∨ ∃ i : Nat, i < rc ∧ r = nI i ∧ s = zrs i) ∧
    (∀ P : Int32 → Prop, P r → wpX_routeOf P (nI now, nI rc, nI ql, zse, zto, ztu, zwe, zsl, zpa, zbr, zup, zti, zfa, zcr, zru, zsu, zfi, zrp, zrs, zca, zre, ztk, zho, zhs, zst, zcl, zpt, zky, zwo, zra, zcm, zen, zat, zan, ztr, zae, zal, zqx) (nI p)) ∧ (∀ P : Int32 → Prop, P s → wpY_serversOf P (nI now, nI rc, nI nx, nI ql, zwe, zsl, zpa, zti, zfa, zcr, zsu, zsi, zwl, zbr, zup, zrp, zrs, zse, zca, zre, ztk, zho, zhs, zcl, zpt, zky, zwo, zra, zsy, zat, zan, ztr, zcm, zen, zae, zal, zqy, zto, ztu, zso) (nI p)) := by
  obtain ⟨r, s, h0, hX, hY⟩ := sv_loop now rc ql nx zae zal zan zat zbr zca zcl zcm zcr zen zfa zfi zho zhs zky zpa zpt zqx zqy zra zre zrp zrs zru zse zsi zsl zso zst zsu zsy zti ztk ztr ztu zup zwe zwl zwo zto hr 4 0 p rfl hp
  exact ⟨r, s, h0, fun P h => ⟨6, hX P 6 (by omega) h⟩, fun P h => ⟨5, hY P 5 (by omega) h⟩⟩
theorem rn_loop (hn0 : nx < 2 ^ 31) (h0 : ∀ q, nx ≤ q → q < 32 → zsy q = 0) (s : Int32) (P : Int32 → Prop) (hP : P (nI (rn_cnt zsy zat s 32))) : ∀ d q n : Nat, q + d = 32 → d < n → wY_running_4 P s (nI now) (nI rc) (nI nx) (nI ql) zwe zsl zpa zti zfa zcr zsu zsi zwl zbr zup zrp zrs zse zca zre ztk zho zhs zcl zpt zky zwo zra zsy zat zan ztr zcm zen zae zal zqy zto ztu zso n (nI (rn_cnt zsy zat s q)) (nI q) := by
  intro d
  induction d with
  | zero =>
    intro q n hq hn
    have e : q = 32 := by omega
    subst e
    exact (by obtain ⟨m, rfl, hm_⟩ := fu_m hn; exact br_t (by decide) hP)
  | succ d ih =>
    intro q n hq hn
    have hq32 : ¬ (32 : Int32) ≤ nI q := nI_ge (b := 32) (by omega) (by decide)
    have hi : vp_in (nI q) 32 := vp_in_nI (by omega) (by omega)
    have ec : (nI q).toNatClampNeg = q := nI_clamp (by omega)
    obtain ⟨m, rfl, hm⟩ := fu_m hn
    refine br_f hq32 (pk_le nx q (fun h => ?_) (fun h => ?_))
    · have e : rn_cnt zsy zat s (q + 1) = rn_cnt zsy zat s q := by
        rw [rn_s, if_neg (fun z => absurd ((h0 q h (by omega)).symm.trans z.1) (by decide))]; rfl
      have := ih (q + 1) m (by omega) (by omega)
      rw [e] at this
      exact nm_r (nI_1 q) this
    · refine ⟨hi, ?_⟩
      rw [ec]
      by_cases z : zsy q = 1
      · by_cases y : zat q = s
        · have e : rn_cnt zsy zat s (q + 1) = rn_cnt zsy zat s q + 1 := by rw [rn_s, if_pos ⟨z, y⟩]
          have := ih (q + 1) m (by omega) (by omega)
          rw [e] at this
          exact br_t z ⟨hi, br_t y (nm_r (nI_1 _) (nm_r (nI_1 q) this))⟩
        · have e : rn_cnt zsy zat s (q + 1) = rn_cnt zsy zat s q := by rw [rn_s, if_neg (fun w => y w.2)]; rfl
          have := ih (q + 1) m (by omega) (by omega)
          rw [e] at this
          exact br_t z ⟨hi, br_f y (nm_r (nI_1 q) this)⟩
      · have e : rn_cnt zsy zat s (q + 1) = rn_cnt zsy zat s q := by rw [rn_s, if_neg (fun w => z w.1)]; rfl
        have := ih (q + 1) m (by omega) (by omega)
        rw [e] at this
        exact br_f z (nm_r (nI_1 q) this)
theorem rn_run (hn0 : nx < 2 ^ 31) (h0 : ∀ q, nx ≤ q → q < 32 → zsy q = 0) (s : Int32) (P : Int32 → Prop) (hP : P (nI (rn_cnt zsy zat s 32))) : wpY_running P (nI now, nI rc, nI nx, nI ql, zwe, zsl, zpa, zti, zfa, zcr, zsu, zsi, zwl, zbr, zup, zrp, zrs, zse, zca, zre, ztk, zho, zhs, zcl, zpt, zky, zwo, zra, zsy, zat, zan, ztr, zcm, zen, zae, zal, zqy, zto, ztu, zso) s :=
  ⟨33, rn_loop now rc ql nx zae zal zan zat zbr zca zcl zcm zcr zen zfa zho zhs zky zpa zpt zqy zra zre zrp zrs zse zsi zsl zso zsu zsy zti ztk ztr ztu zup zwe zwl zwo zto hn0 h0 s P hP 32 0 33 rfl (by omega)⟩
end
