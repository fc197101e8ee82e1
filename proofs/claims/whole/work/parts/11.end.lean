/-! tokens; attempts that end -/
section
variable (now rc ql nx : Nat) (zae zal zan zat zbr zca zcl zcm zcr zen zfa zfi zho zhs zky zpa zpt zqx zqy zra zre zrp zrs zru zse zsi zsl zso zst zsu zsy zti ztk ztr ztu zup zwe zwl zwo : Nat → Int32) (zto : Nat → Int64)
theorem tb_loop (hre : ∀ c, c < 6 → ¬ zre c = 0) : ∀ d c : Nat, c + d = 6 → ∀ tk : Nat → Int32, ∃ tk' : Nat → Int32,
    (∀ (P : SX → Prop) (n : Nat), d < n → P (nI now, nI rc, nI ql, zse, zto, ztu, zwe, zsl, zpa, zbr, zup, zti, zfa, zcr, zru, zsu, zfi, zrp, zrs, zca, zre, tk', zho, zhs, zst, zcl, zpt, zky, zwo, zra, zcm, zen, zat, zan, ztr, zae, zal, zqx) → wX_bringTokens_2 P (nI now) (nI rc) (nI ql) n (nI c) zse zto ztu zwe zsl zpa zbr zup zti zfa zcr zru zsu zfi zrp zrs zca zre tk zho zhs zst zcl zpt zky zwo zra zcm zen zat zan ztr zae zal zqx) ∧
    (∀ (P : SY → Prop) (n : Nat), d < n → wY_unit_12 P (nI now) (nI rc) (nI nx) (nI ql) 1 (nI 6) zwe zsl zpa zti zfa zcr zsu zsi zwl zbr zup zrp zrs zse zca zre tk' zho zhs zcl zpt zky zwo zra zsy zat zan ztr zcm zen zae zal zqy zto ztu zso → wY_unit_12 P (nI now) (nI rc) (nI nx) (nI ql) n (nI c) zwe zsl zpa zti zfa zcr zsu zsi zwl zbr zup zrp zrs zse zca zre tk zho zhs zcl zpt zky zwo zra zsy zat zan ztr zcm zen zae zal zqy zto ztu zso) := by
  intro d
  induction d with
  | zero =>
    intro c hc tk
    have e : c = 6 := by omega
    subst e
    have l66 : (6 : Int32) ≤ nI 6 := by decide
    exact ⟨tk, fun P n hn hp => (by obtain ⟨m, rfl, hm_⟩ := fu_m hn; exact br_t l66 hp), fun P n hn hp => (by obtain ⟨m, rfl, hm_⟩ := fu_m hn; exact br_t l66 (ex_t l66 hp))⟩
  | succ d ih =>
    intro c hc tk
    have h6 : ¬ (6 : Int32) ≤ nI c := nI_ge (b := 6) (by omega) (by decide)
    have hi : vp_in (nI c) 6 := vp_in_nI (by omega) (by decide)
    have hn0 : ¬ zre (nI c).toNatClampNeg = 0 := by rw [nI_clamp (by omega)]; exact hre c (by omega)
    by_cases z : (nI now - nI now / zre (nI c).toNatClampNeg * zre (nI c).toNatClampNeg) = 0
    · by_cases y : zca (nI c).toNatClampNeg ≤ tk (nI c).toNatClampNeg
      · obtain ⟨tk', hX, hY⟩ := ih (c + 1) (by omega) tk
        exact ⟨tk', fun P n hn hp => (by obtain ⟨m, rfl, hm⟩ := fu_m hn; exact br_f h6 ⟨hi, hn0, br_t z ⟨hi, hi, br_t y (nm_r (nI_1 c) (hX P m (by omega) hp))⟩⟩),
          fun P n hn hp => (by obtain ⟨m, rfl, hm⟩ := fu_m hn; exact br_f h6 ⟨hi, hn0, br_t z ⟨hi, hi, br_t y (nm_r (nI_1 c) (hY P m (by omega) hp))⟩⟩)⟩
      · obtain ⟨tk', hX, hY⟩ := ih (c + 1) (by omega) (upd tk (nI c).toNatClampNeg (tk (nI c).toNatClampNeg + 1))
        exact ⟨tk', fun P n hn hp => (by obtain ⟨m, rfl, hm⟩ := fu_m hn; exact br_f h6 ⟨hi, hn0, br_t z ⟨hi, hi, br_f y ⟨hi, hi, nm_e (nm_r (nI_1 c) (hX P m (by omega) hp))⟩⟩⟩),
          fun P n hn hp => (by obtain ⟨m, rfl, hm⟩ := fu_m hn; exact br_f h6 ⟨hi, hn0, br_t z ⟨hi, hi, br_f y ⟨hi, hi, nm_e (nm_r (nI_1 c) (hY P m (by omega) hp))⟩⟩⟩)⟩
    · obtain ⟨tk', hX, hY⟩ := ih (c + 1) (by omega) tk
      exact ⟨tk', fun P n hn hp => (by obtain ⟨m, rfl, hm⟩ := fu_m hn; exact br_f h6 ⟨hi, hn0, br_f z (nm_r (nI_1 c) (hX P m (by omega) hp))⟩),
        fun P n hn hp => (by obtain ⟨m, rfl, hm⟩ := fu_m hn; exact br_f h6 ⟨hi, hn0, br_f z (nm_r (nI_1 c) (hY P m (by omega) hp))⟩)⟩
/-- finish, over: how is a number below 7 -/
theorem fi_X {q h : Nat} (hq : q < 32) (hh : h < 7) (P : SX → Prop) (hP : P (nI now, nI rc, nI ql, zse, vp_updL zto h (zto h + 1), ztu, zwe, zsl, zpa, zbr, zup, zti, zfa, zcr, zru, zsu, zfi, zrp, zrs, zca, zre, ztk, zho, zhs, upd zst q (nI h), zcl, zpt, zky, zwo, zra, zcm, upd zen q (nI now), zat, zan, ztr, zae, zal, zqx)) : wpX_finish P (nI now, nI rc, nI ql, zse, zto, ztu, zwe, zsl, zpa, zbr, zup, zti, zfa, zcr, zru, zsu, zfi, zrp, zrs, zca, zre, ztk, zho, zhs, zst, zcl, zpt, zky, zwo, zra, zcm, zen, zat, zan, ztr, zae, zal, zqx) (nI q) (nI h) := by
  have hqi : vp_in (nI q) 32 := vp_in_nI hq (by decide)
  have hhi : vp_in (nI h) 7 := vp_in_nI hh (by decide)
  have eq : (nI q).toNatClampNeg = q := nI_clamp (by omega)
  have eh : (nI h).toNatClampNeg = h := nI_clamp (by omega)
  unfold wpX_finish
  rw [eq, eh]
  exact ⟨hqi, nm_e ⟨hqi, nm_e ⟨hhi, hhi, nm_e hP⟩⟩⟩
theorem fi_Y {q h : Nat} (hq : q < 32) (hh : h < 7) (P : SY → Prop) (hP : P (nI now, nI rc, nI nx, nI ql, zwe, zsl, zpa, zti, zfa, zcr, zsu, zsi, zwl, zbr, zup, zrp, zrs, zse, zca, zre, ztk, zho, zhs, zcl, zpt, zky, zwo, zra, upd zsy q (nI h), zat, zan, ztr, zcm, upd zen q (nI now), zae, zal, zqy, vp_updL zto h (zto h + 1), ztu, zso)) : wpY_over P (nI now, nI rc, nI nx, nI ql, zwe, zsl, zpa, zti, zfa, zcr, zsu, zsi, zwl, zbr, zup, zrp, zrs, zse, zca, zre, ztk, zho, zhs, zcl, zpt, zky, zwo, zra, zsy, zat, zan, ztr, zcm, zen, zae, zal, zqy, zto, ztu, zso) (nI q) (nI h) := by
  have hqi : vp_in (nI q) 32 := vp_in_nI hq (by decide)
  have hhi : vp_in (nI h) 7 := vp_in_nI hh (by decide)
  have eq : (nI q).toNatClampNeg = q := nI_clamp (by omega)
  have eh : (nI h).toNatClampNeg = h := nI_clamp (by omega)
  unfold wpY_over
  rw [eq, eh]
  exact ⟨hqi, nm_e ⟨hqi, nm_e ⟨hhi, hhi, nm_e hP⟩⟩⟩
theorem sc_X {q s c dn : Nat} (hq : q < 32) (hs : s < 6) (hc : c < 6) (hat : zat q = nI s) (hcl : zcl q = nI c) (hdn : dn < 2 ^ 31) (hto : zto 2 = lN dn) (P : SX → Prop)
    (hP : P (nI now, nI rc, nI ql, zse, vp_updL (vp_updL zto 1 (zto 1 + (nI now - zcm q).toInt64)) 2 (lN (dn + 1)), upd ztu (dn % 64) (nI now - zcm q), zwe, zsl, zpa, zbr, zup, upd zti s (-1), upd zfa s 0, zcr, zru, upd zsu s (zsu s + 1), zfi, zrp, zrs, zca, zre, ztk, upd zho c (nI s), upd zhs c (nI now), upd zst q 2, zcl, zpt, zky, zwo, zra, zcm, upd zen q (nI now), zat, zan, ztr, zae, zal, zqx)) :
    wpX_succeed P (nI now, nI rc, nI ql, zse, zto, ztu, zwe, zsl, zpa, zbr, zup, zti, zfa, zcr, zru, zsu, zfi, zrp, zrs, zca, zre, ztk, zho, zhs, zst, zcl, zpt, zky, zwo, zra, zcm, zen, zat, zan, ztr, zae, zal, zqx) (nI q) := by
  have hqi : vp_in (nI q) 32 := vp_in_nI hq (by decide)
  have hsi : vp_in (nI s) 6 := vp_in_nI hs (by decide)
  have hci : vp_in (nI c) 6 := vp_in_nI hc (by decide)
  have eq : (nI q).toNatClampNeg = q := nI_clamp (by omega)
  have es : (nI s).toNatClampNeg = s := nI_clamp (by omega)
  have ec : (nI c).toNatClampNeg = c := nI_clamp (by omega)
  have e64 : (zto 2).toInt32 &&& 63 = nI (dn % 64) := by rw [hto, lN_i]; exact pk_andN (by omega) 6 (by decide)
  have h64 : vp_in (nI (dn % 64)) 64 := vp_in_nI (Nat.mod_lt _ (by decide)) (by decide)
  have eu : (nI (dn % 64)).toNatClampNeg = dn % 64 := nI_clamp (by omega)
  have et : vp_updL (vp_updL zto 1 (zto 1 + (nI now - zcm q).toInt64)) 2 ((vp_updL zto 1 (zto 1 + (nI now - zcm q).toInt64)) 2 + 1) = vp_updL (vp_updL zto 1 (zto 1 + (nI now - zcm q).toInt64)) 2 (lN (dn + 1)) := by
    rw [pk_uLn (by decide), hto, lN_1]
  unfold wpX_succeed
  dsimp only
  rw [eq, hcl, ec, e64, eu]
  refine ⟨hqi, nm_r hat ⟨hsi, ?_⟩⟩
  rw [es]
  refine nm_e ⟨hsi, nm_e ⟨hsi, hsi, nm_e ⟨hqi, hci, nm_e ⟨hqi, hci, nm_e ⟨hqi, nm_e ⟨h64, nm_e (nm_e (fi_X now rc ql zae zal zan zat zbr zca zcl zcm zcr zen (upd zfa s 0) zfi (upd zho c (nI s)) (upd zhs c (nI now)) zky zpa zpt zqx zra zre zrp zrs zru zse zsl zst (upd zsu s (zsu s + 1)) (upd zti s (-1)) ztk ztr (upd ztu (dn % 64) (nI now - zcm q)) zup zwe zwo (vp_updL zto 1 (zto 1 + (nI now - zcm q).toInt64)) (h := 2) hq (by decide) _ ?_))⟩⟩⟩⟩⟩⟩
  rw [et]
  exact hP
theorem sc_Y {q s c dn : Nat} (hq : q < 32) (hs : s < 6) (hc : c < 6) (hat : zat q = nI s) (hcl : zcl q = nI c) (hdn : dn < 2 ^ 31) (hto : zto 2 = lN dn) (hal : zal q = 0) (hbr : zbr s = 0) (P : SY → Prop)
    (hP : P (nI now, nI rc, nI nx, nI ql, zwe, zsl, zpa, upd zti s (-1), upd zfa s 0, zcr, upd zsu s (zsu s + 1), zsi, zwl, zbr, zup, zrp, zrs, zse, zca, zre, ztk, upd zho c (nI s), upd zhs c (nI now), zcl, zpt, zky, zwo, zra, upd zsy q 2, zat, zan, ztr, zcm, upd zen q (nI now), zae, zal, zqy, vp_updL (vp_updL zto 1 (zto 1 + (nI now - zcm q).toInt64)) 2 (lN (dn + 1)), upd ztu (dn % 64) (nI now - zcm q), zso)) :
    wpY_finish P (nI now, nI rc, nI nx, nI ql, zwe, zsl, zpa, zti, zfa, zcr, zsu, zsi, zwl, zbr, zup, zrp, zrs, zse, zca, zre, ztk, zho, zhs, zcl, zpt, zky, zwo, zra, zsy, zat, zan, ztr, zcm, zen, zae, zal, zqy, zto, ztu, zso) (nI q) := by
  have hqi : vp_in (nI q) 32 := vp_in_nI hq (by decide)
  have hsi : vp_in (nI s) 6 := vp_in_nI hs (by decide)
  have hci : vp_in (nI c) 6 := vp_in_nI hc (by decide)
  have eq : (nI q).toNatClampNeg = q := nI_clamp (by omega)
  have es : (nI s).toNatClampNeg = s := nI_clamp (by omega)
  have ec : (nI c).toNatClampNeg = c := nI_clamp (by omega)
  have h64 : vp_in (nI (dn % 64)) 64 := vp_in_nI (Nat.mod_lt _ (by decide)) (by decide)
  have eu : (nI (dn % 64)).toNatClampNeg = dn % 64 := nI_clamp (by omega)
  have h0 : ¬ (64 : Int32) = 0 := by decide
  have e1 : vp_updL zto 2 (zto 2 + 1) = vp_updL zto 2 (lN (dn + 1)) := by rw [hto, lN_1]
  have e2 : (vp_updL zto 2 (lN (dn + 1))) 2 = lN (dn + 1) := pk_uLs
  have e3 : (vp_updL zto 2 (lN (dn + 1))) 1 = zto 1 := pk_uLn (by decide)
  have e4 : lN (dn + 1) - 1 = lN dn := lN_sub (b := 1) (by omega)
  have e5 : nI dn - nI dn / 64 * 64 = nI (dn % 64) := pk_rem (d := 64) hdn (by decide) (by decide)
  have e6 : vp_updL (vp_updL zto 2 (lN (dn + 1))) 1 (zto 1 + (nI now - zcm q).toInt64) = vp_updL (vp_updL zto 1 (zto 1 + (nI now - zcm q).toInt64)) 2 (lN (dn + 1)) := ms_comm (by decide)
  unfold wpY_finish
  rw [eq]
  refine ⟨hqi, nm_r hat ⟨hqi, br_t hal ⟨hsi, ?_⟩⟩⟩
  rw [es]
  refine br_t hbr (fi_Y now rc ql nx zae zal zan zat zbr zca zcl zcm zcr zen zfa zho zhs zky zpa zpt zqy zra zre zrp zrs zse zsi zsl zso zsu zsy zti ztk ztr ztu zup zwe zwl zwo zto (h := 2) hq (by decide) _ ?_)
  rw [e1]
  dsimp only
  rw [hcl, ec, e2, e3, e4, lN_i, e5, eu]
  refine ⟨hsi, nm_e ⟨hsi, nm_e ⟨hsi, hsi, nm_e ⟨hqi, hci, nm_e ⟨hqi, hci, nm_e ⟨h0, hqi, h64, nm_e ⟨hqi, nm_r e6 hP⟩⟩⟩⟩⟩⟩⟩
end
