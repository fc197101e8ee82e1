/-! checks of health -/
theorem cx_1 {c : Nat} (h : c < 2 ^ 31) : -nI c < 2 := by rw [Int32.lt_iff_toInt_lt, ms_i2, iv_neg h]; omega
theorem cx_2 {c : Nat} (h : c < 2 ^ 31) : -2 < -nI c ↔ c ≤ 1 := by rw [Int32.lt_iff_toInt_lt, ms_im2, iv_neg h]; omega
theorem cx_3 {c : Nat} (h : c < 2 ^ 31) : nI c ≤ 1 ↔ c ≤ 1 := by rw [Int32.le_iff_toInt_le, ms_i1, nI_toInt h]; omega
theorem cx_4 {c : Nat} (h : c < 2 ^ 31) : nI c < 2 ↔ c ≤ 1 := by rw [Int32.lt_iff_toInt_lt, ms_i2, nI_toInt h]; omega
theorem cx_5 {c : Nat} (h : c < 2 ^ 31) : -2 < nI c := by rw [Int32.lt_iff_toInt_lt, ms_im2, nI_toInt h]; omega
theorem cx_6 : (0 : Int32) ≤ 1 := by decide
def fd_ok (B : Nat) (f si w : Int32) : Prop := ∃ a : Nat, a ≤ B ∧ ((f = nI a ∧ si = nI a ∧ w = 0) ∨ (f = -nI a ∧ si = 0 ∧ w = nI a))
section
variable (now rc ql nx : Nat) (zae zal zan zat zbr zca zcl zcm zcr zen zfa zfi zho zhs zky zpa zpt zqx zqy zra zre zrp zrs zru zse zsi zsl zso zst zsu zsy zti ztk ztr ztu zup zwe zwl zwo : Nat → Int32) (zto : Nat → Int64)
theorem c7_n {s c : Nat} (hs : s < 6) (hc : c < 2 ^ 31) (P : SX → Prop) (J : Int32 → (Nat → Int32) → (Nat → Int64) → (Nat → Int32) → (Nat → Int32) → (Nat → Int32) → (Nat → Int32) → (Nat → Int32) → (Nat → Int32) → (Nat → Int32) → (Nat → Int32) → (Nat → Int32) → (Nat → Int32) → (Nat → Int32) → (Nat → Int32) → (Nat → Int32) → (Nat → Int32) → (Nat → Int32) → (Nat → Int32) → (Nat → Int32) → (Nat → Int32) → (Nat → Int32) → (Nat → Int32) → (Nat → Int32) → (Nat → Int32) → (Nat → Int32) → (Nat → Int32) → (Nat → Int32) → (Nat → Int32) → (Nat → Int32) → (Nat → Int32) → (Nat → Int32) → (Nat → Int32) → (Nat → Int32) → (Nat → Int32) → (Nat → Int32) → Prop)
    (hf : zfi s = -nI c) (hJ : J (nI (s + 1)) zse zto ztu zwe zsl zpa zbr (if c ≤ 1 then zup else upd zup s 1) zti zfa zcr zru zsu zfi zrp zrs zca zre ztk zho zhs zst zcl zpt zky zwo zra zcm zen zat zan ztr zae zal zqx) : wX_checkServers_74 P J (nI s) (nI now) (nI rc) (nI ql) zse zto ztu zwe zsl zpa zbr zup zti zfa zcr zru zsu zfi zrp zrs zca zre ztk zho zhs zst zcl zpt zky zwo zra zcm zen zat zan ztr zae zal zqx := by
  have hi : vp_in (nI s) 6 := vp_in_nI hs (by decide)
  have es : (nI s).toNatClampNeg = s := nI_clamp (by omega)
  refine ⟨hi, ?_⟩
  rw [es, hf, ms_nb1, ms_nb0]
  refine br_t (cx_1 hc) ⟨hi, ?_⟩
  by_cases z : c ≤ 1
  · rw [if_pos z] at hJ
    exact br_t ((cx_2 hc).mpr z) (nm_r (nI_1 s) hJ)
  · rw [if_neg z] at hJ
    exact br_f (fun y => z ((cx_2 hc).mp y)) ⟨hi, nm_e (nm_r (nI_1 s) hJ)⟩
theorem c7_b {s c : Nat} (hs : s < 6) (hc : c < 2 ^ 31) (P : SX → Prop) (J : Int32 → (Nat → Int32) → (Nat → Int64) → (Nat → Int32) → (Nat → Int32) → (Nat → Int32) → (Nat → Int32) → (Nat → Int32) → (Nat → Int32) → (Nat → Int32) → (Nat → Int32) → (Nat → Int32) → (Nat → Int32) → (Nat → Int32) → (Nat → Int32) → (Nat → Int32) → (Nat → Int32) → (Nat → Int32) → (Nat → Int32) → (Nat → Int32) → (Nat → Int32) → (Nat → Int32) → (Nat → Int32) → (Nat → Int32) → (Nat → Int32) → (Nat → Int32) → (Nat → Int32) → (Nat → Int32) → (Nat → Int32) → (Nat → Int32) → (Nat → Int32) → (Nat → Int32) → (Nat → Int32) → (Nat → Int32) → (Nat → Int32) → (Nat → Int32) → Prop)
    (hf : zfi s = nI c) (hJ : J (nI (s + 1)) zse zto ztu zwe zsl zpa zbr (if c ≤ 1 then zup else upd zup s 0) zti zfa zcr zru zsu zfi zrp zrs zca zre ztk zho zhs zst zcl zpt zky zwo zra zcm zen zat zan ztr zae zal zqx) : wX_checkServers_74 P J (nI s) (nI now) (nI rc) (nI ql) zse zto ztu zwe zsl zpa zbr zup zti zfa zcr zru zsu zfi zrp zrs zca zre ztk zho zhs zst zcl zpt zky zwo zra zcm zen zat zan ztr zae zal zqx := by
  have hi : vp_in (nI s) 6 := vp_in_nI hs (by decide)
  have es : (nI s).toNatClampNeg = s := nI_clamp (by omega)
  refine ⟨hi, ?_⟩
  rw [es, hf, ms_nb1, ms_nb0]
  by_cases z : c ≤ 1
  · rw [if_pos z] at hJ
    exact br_t ((cx_4 hc).mpr z) ⟨hi, br_t (cx_5 hc) (nm_r (nI_1 s) hJ)⟩
  · rw [if_neg z] at hJ
    exact br_f (fun y => z ((cx_4 hc).mp y)) ⟨hi, nm_e (nm_r (nI_1 s) hJ)⟩
theorem c1_n {s a B : Nat} (hs : s < 6) (hB : B < 2 ^ 30) (ha : a ≤ B) (h : (zfi s = nI a ∧ zsi s = nI a ∧ zwl s = 0) ∨ (zfi s = -nI a ∧ zsi s = 0 ∧ zwl s = nI a)) (hbr : zbr s = 0) :
    ∃ (f' si' w' : Int32) (up' : Nat → Int32), fd_ok (B + 1) f' si' w' ∧
    (∀ (P : SX → Prop) (m : Nat), wX_checkServers_2 P (nI now) (nI rc) (nI ql) m (nI (s + 1)) zse zto ztu zwe zsl zpa zbr up' zti zfa zcr zru zsu (upd zfi s f') zrp zrs zca zre ztk zho zhs zst zcl zpt zky zwo zra zcm zen zat zan ztr zae zal zqx → wX_checkServers_2 P (nI now) (nI rc) (nI ql) (m + 1) (nI s) zse zto ztu zwe zsl zpa zbr zup zti zfa zcr zru zsu zfi zrp zrs zca zre ztk zho zhs zst zcl zpt zky zwo zra zcm zen zat zan ztr zae zal zqx) ∧
    (∀ Q : SY → Prop, Q (nI now, nI rc, nI nx, nI ql, zwe, zsl, zpa, zti, zfa, zcr, zsu, upd zsi s si', upd zwl s w', zbr, up', zrp, zrs, zse, zca, zre, ztk, zho, zhs, zcl, zpt, zky, zwo, zra, zsy, zat, zan, ztr, zcm, zen, zae, zal, zqy, zto, ztu, zso) → wpY_check Q (nI now, nI rc, nI nx, nI ql, zwe, zsl, zpa, zti, zfa, zcr, zsu, zsi, zwl, zbr, zup, zrp, zrs, zse, zca, zre, ztk, zho, zhs, zcl, zpt, zky, zwo, zra, zsy, zat, zan, ztr, zcm, zen, zae, zal, zqy, zto, ztu, zso) (nI s)) := by
  obtain ⟨c, hc, h1, h2, h3⟩ := ck_w hB ha h
  have hc' : c < 2 ^ 31 := by omega
  have hi : vp_in (nI s) 6 := vp_in_nI hs (by decide)
  have es : (nI s).toNatClampNeg = s := nI_clamp (by omega)
  have h6 : ¬ (6 : Int32) ≤ nI s := nI_ge (b := 6) hs (by decide)
  have hbr' : zbr (nI s).toNatClampNeg = 0 := by rw [es]; exact hbr
  refine ⟨-nI c, 0, nI c, if c ≤ 1 then zup else upd zup s 1, ⟨c, hc, Or.inr ⟨rfl, rfl, rfl⟩⟩, fun P m hp => ?_, fun Q hQ => ?_⟩
  · refine br_f h6 ⟨hi, ?_⟩
    rw [es]
    refine br_t hbr ⟨hi, ?_⟩
    by_cases z : zfi s < 0
    · refine br_f (Int32.not_le.mpr z) ⟨hi, hi, nm_r (show upd zfi (nI s).toNatClampNeg (zfi s - 1) = upd zfi s (-nI c) by rw [es, h2 z]) ?_⟩
      exact c7_n now rc ql zae zal zan zat zbr zca zcl zcm zcr zen zfa (upd zfi s (-nI c)) zho zhs zky zpa zpt zqx zra zre zrp zrs zru zse zsl zst zsu zti ztk ztr ztu zup zwe zwo zto hs hc' P _ pk_us hp
    · refine br_t (Int32.not_lt.mp z) ⟨hi, nm_r (show upd zfi (nI s).toNatClampNeg (-1) = upd zfi s (-nI c) by rw [es, h3 z]) ?_⟩
      exact c7_n now rc ql zae zal zan zat zbr zca zcl zcm zcr zen zfa (upd zfi s (-nI c)) zho zhs zky zpa zpt zqx zra zre zrp zrs zru zse zsl zst zsu zti ztk ztr ztu zup zwe zwo zto hs hc' P _ pk_us hp
  · unfold wpY_check
    refine ⟨hi, br_t hbr' ⟨hi, nm_r (show upd zsi (nI s).toNatClampNeg 0 = upd zsi s 0 by rw [es]) ⟨hi, br_t hbr' ⟨hi, hi, nm_r (show upd zwl (nI s).toNatClampNeg (zwl (nI s).toNatClampNeg + 1) = upd zwl s (nI c) by rw [es, h1]) ⟨hi, ?_⟩⟩⟩⟩⟩
    rw [es, pk_us]
    refine br_t cx_6 ⟨hi, ?_⟩
    rw [es, pk_us, ms_nb1]
    by_cases z : c ≤ 1
    · rw [if_pos z] at hQ
      exact br_t ((cx_3 hc').mpr z) hQ
    · rw [if_neg z] at hQ
      exact br_f (fun y => z ((cx_3 hc').mp y)) ⟨hi, nm_e hQ⟩
theorem c1_b {s a B : Nat} (hs : s < 6) (hB : B < 2 ^ 30) (ha : a ≤ B) (h : (zfi s = nI a ∧ zsi s = nI a ∧ zwl s = 0) ∨ (zfi s = -nI a ∧ zsi s = 0 ∧ zwl s = nI a)) (hbr : ¬ zbr s = 0) :
    ∃ (f' si' w' : Int32) (up' : Nat → Int32), fd_ok (B + 1) f' si' w' ∧
    (∀ (P : SX → Prop) (m : Nat), wX_checkServers_2 P (nI now) (nI rc) (nI ql) m (nI (s + 1)) zse zto ztu zwe zsl zpa zbr up' zti zfa zcr zru zsu (upd zfi s f') zrp zrs zca zre ztk zho zhs zst zcl zpt zky zwo zra zcm zen zat zan ztr zae zal zqx → wX_checkServers_2 P (nI now) (nI rc) (nI ql) (m + 1) (nI s) zse zto ztu zwe zsl zpa zbr zup zti zfa zcr zru zsu zfi zrp zrs zca zre ztk zho zhs zst zcl zpt zky zwo zra zcm zen zat zan ztr zae zal zqx) ∧
    (∀ Q : SY → Prop, Q (nI now, nI rc, nI nx, nI ql, zwe, zsl, zpa, zti, zfa, zcr, zsu, upd zsi s si', upd zwl s w', zbr, up', zrp, zrs, zse, zca, zre, ztk, zho, zhs, zcl, zpt, zky, zwo, zra, zsy, zat, zan, ztr, zcm, zen, zae, zal, zqy, zto, ztu, zso) → wpY_check Q (nI now, nI rc, nI nx, nI ql, zwe, zsl, zpa, zti, zfa, zcr, zsu, zsi, zwl, zbr, zup, zrp, zrs, zse, zca, zre, ztk, zho, zhs, zcl, zpt, zky, zwo, zra, zsy, zat, zan, ztr, zcm, zen, zae, zal, zqy, zto, ztu, zso) (nI s)) := by
  obtain ⟨c, hc, h1, h2, h3⟩ := ck_b hB ha h
  have hc' : c < 2 ^ 31 := by omega
  have hi : vp_in (nI s) 6 := vp_in_nI hs (by decide)
  have es : (nI s).toNatClampNeg = s := nI_clamp (by omega)
  have h6 : ¬ (6 : Int32) ≤ nI s := nI_ge (b := 6) hs (by decide)
  have hbr' : ¬ zbr (nI s).toNatClampNeg = 0 := by rw [es]; exact hbr
  refine ⟨nI c, nI c, 0, if c ≤ 1 then zup else upd zup s 0, ⟨c, hc, Or.inl ⟨rfl, rfl, rfl⟩⟩, fun P m hp => ?_, fun Q hQ => ?_⟩
  · refine br_f h6 ⟨hi, ?_⟩
    rw [es]
    refine br_f hbr ⟨hi, ?_⟩
    by_cases z : 0 < zfi s
    · refine br_f (Int32.not_le.mpr z) ⟨hi, hi, nm_r (show upd zfi (nI s).toNatClampNeg (zfi s + 1) = upd zfi s (nI c) by rw [es, h2 z]) ?_⟩
      exact c7_b now rc ql zae zal zan zat zbr zca zcl zcm zcr zen zfa (upd zfi s (nI c)) zho zhs zky zpa zpt zqx zra zre zrp zrs zru zse zsl zst zsu zti ztk ztr ztu zup zwe zwo zto hs hc' P _ pk_us hp
    · refine br_t (Int32.not_lt.mp z) ⟨hi, nm_r (show upd zfi (nI s).toNatClampNeg 1 = upd zfi s (nI c) by rw [es, ← h3 z]) ?_⟩
      exact c7_b now rc ql zae zal zan zat zbr zca zcl zcm zcr zen zfa (upd zfi s (nI c)) zho zhs zky zpa zpt zqx zra zre zrp zrs zru zse zsl zst zsu zti ztk ztr ztu zup zwe zwo zto hs hc' P _ pk_us hp
  · unfold wpY_check
    refine ⟨hi, br_f hbr' ⟨hi, hi, nm_r (show upd zsi (nI s).toNatClampNeg (zsi (nI s).toNatClampNeg + 1) = upd zsi s (nI c) by rw [es, h1]) ⟨hi, br_f hbr' ⟨hi, nm_r (show upd zwl (nI s).toNatClampNeg 0 = upd zwl s 0 by rw [es]) ⟨hi, ?_⟩⟩⟩⟩⟩
    rw [es, pk_us, ms_nb0]
    by_cases z : c ≤ 1
    · rw [if_pos z] at hQ
      refine br_t ((cx_3 hc').mpr z) ⟨hi, ?_⟩
      rw [es, pk_us]
      exact br_t cx_6 hQ
    · rw [if_neg z] at hQ
      refine br_f (fun y => z ((cx_3 hc').mp y)) ⟨hi, nm_e ⟨hi, ?_⟩⟩
      rw [es, pk_us]
      exact br_t cx_6 hQ
end
section
variable (now rc ql nx : Nat) (zae zal zan zat zbr zca zcl zcm zcr zen zfa zfi zho zhs zky zpa zpt zqx zqy zra zre zrp zrs zru zse zsi zsl zso zst zsu zsy zti ztk ztr ztu zup zwe zwl zwo : Nat → Int32) (zto : Nat → Int64)
theorem cs_loop {B : Nat} (hB : B < 2 ^ 30) (hz0 : ¬ zse 4 = 0) (hz : nI now - nI now / zse 4 * zse 4 = 0) : ∀ d s : Nat, s + d = 6 → ∀ fi si wl up : Nat → Int32, (∀ j, j < 6 → fd_ok (B + 1) (fi j) (si j) (wl j)) → (∀ j, s ≤ j → j < 6 → fd_ok B (fi j) (si j) (wl j)) →
    ∃ fi' si' wl' up' : Nat → Int32, iv_fnd (B + 1) fi' si' wl' ∧ (∀ (P : SX → Prop) (n : Nat), d < n → P (nI now, nI rc, nI ql, zse, zto, ztu, zwe, zsl, zpa, zbr, up', zti, zfa, zcr, zru, zsu, fi', zrp, zrs, zca, zre, ztk, zho, zhs, zst, zcl, zpt, zky, zwo, zra, zcm, zen, zat, zan, ztr, zae, zal, zqx) → wX_checkServers_2 P (nI now) (nI rc) (nI ql) n (nI s) zse zto ztu zwe zsl zpa zbr up zti zfa zcr zru zsu fi zrp zrs zca zre ztk zho zhs zst zcl zpt zky zwo zra zcm zen zat zan ztr zae zal zqx) ∧
    (∀ (P : SY → Prop) (n : Nat), d < n → wY_unit_133 P 1 (nI 6) (nI now) (nI rc) (nI nx) (nI ql) zwe zsl zpa zti zfa zcr zsu si' wl' zbr up' zrp zrs zse zca zre ztk zho zhs zcl zpt zky zwo zra zsy zat zan ztr zcm zen zae zal zqy zto ztu zso → wY_unit_133 P n (nI s) (nI now) (nI rc) (nI nx) (nI ql) zwe zsl zpa zti zfa zcr zsu si wl zbr up zrp zrs zse zca zre ztk zho zhs zcl zpt zky zwo zra zsy zat zan ztr zcm zen zae zal zqy zto ztu zso) := by
  intro d
  induction d with
  | zero =>
    intro s hs fi si wl up h1 h2
    have e : s = 6 := by omega
    subst e
    have l66 : (6 : Int32) ≤ nI 6 := by decide
    exact ⟨fi, si, wl, up, h1, fun P n hn hp => (by obtain ⟨m, rfl, hm_⟩ := fu_m hn; exact br_t l66 hp), fun P n hn hp => (by obtain ⟨m, rfl, hm_⟩ := fu_m hn; exact br_t l66 (ex_t l66 hp))⟩
  | succ d ih =>
    intro s hs fi si wl up h1 h2
    have hs6 : s < 6 := by omega
    have h6 : ¬ (6 : Int32) ≤ nI s := nI_ge (b := 6) hs6 (by decide)
    obtain ⟨a, ha, hf⟩ := h2 s (Nat.le_refl _) hs6
    have c1 : ∃ (f' si' w' : Int32) (up' : Nat → Int32), fd_ok (B + 1) f' si' w' ∧
        (∀ (P : SX → Prop) (m : Nat), wX_checkServers_2 P (nI now) (nI rc) (nI ql) m (nI (s + 1)) zse zto ztu zwe zsl zpa zbr up' zti zfa zcr zru zsu (upd fi s f') zrp zrs zca zre ztk zho zhs zst zcl zpt zky zwo zra zcm zen zat zan ztr zae zal zqx → wX_checkServers_2 P (nI now) (nI rc) (nI ql) (m + 1) (nI s) zse zto ztu zwe zsl zpa zbr up zti zfa zcr zru zsu fi zrp zrs zca zre ztk zho zhs zst zcl zpt zky zwo zra zcm zen zat zan ztr zae zal zqx) ∧
        (∀ Q : SY → Prop, Q (nI now, nI rc, nI nx, nI ql, zwe, zsl, zpa, zti, zfa, zcr, zsu, upd si s si', upd wl s w', zbr, up', zrp, zrs, zse, zca, zre, ztk, zho, zhs, zcl, zpt, zky, zwo, zra, zsy, zat, zan, ztr, zcm, zen, zae, zal, zqy, zto, ztu, zso) → wpY_check Q (nI now, nI rc, nI nx, nI ql, zwe, zsl, zpa, zti, zfa, zcr, zsu, si, wl, zbr, up, zrp, zrs, zse, zca, zre, ztk, zho, zhs, zcl, zpt, zky, zwo, zra, zsy, zat, zan, ztr, zcm, zen, zae, zal, zqy, zto, ztu, zso) (nI s)) := by
      by_cases z : zbr s = 0
      · exact c1_n now rc ql nx zae zal zan zat zbr zca zcl zcm zcr zen zfa fi zho zhs zky zpa zpt zqx zqy zra zre zrp zrs zru zse si zsl zso zst zsu zsy zti ztk ztr ztu up zwe wl zwo zto hs6 hB ha hf z
      · exact c1_b now rc ql nx zae zal zan zat zbr zca zcl zcm zcr zen zfa fi zho zhs zky zpa zpt zqx zqy zra zre zrp zrs zru zse si zsl zso zst zsu zsy zti ztk ztr ztu up zwe wl zwo zto hs6 hB ha hf z
    obtain ⟨f', si', w', up', hok, X1, Y1⟩ := c1
    obtain ⟨fi2, si2, wl2, up2, hfnd, X2, Y2⟩ := ih (s + 1) (by omega) (upd fi s f') (upd si s si') (upd wl s w') up'
      (fun j hj => by
        by_cases e : j = s
        · rw [e, pk_us, pk_us, pk_us]; exact hok
        · rw [pk_un e, pk_un e, pk_un e]; exact h1 j hj)
      (fun j hj hj6 => by rw [pk_un (by omega), pk_un (by omega), pk_un (by omega)]; exact h2 j (by omega) hj6)
    refine ⟨fi2, si2, wl2, up2, hfnd, fun P n hn hp => ?_, fun P n hn hp => ?_⟩
    · obtain ⟨m, rfl, hm⟩ := fu_m hn
      exact X1 P m (X2 P m (by omega) hp)
    · obtain ⟨m, rfl, hm⟩ := fu_m hn
      exact br_f h6 ⟨hz0, br_t hz (Y1 _ (nm_r (nI_1 s) (Y2 P m (by omega) hp)))⟩
end
