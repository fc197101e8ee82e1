/-! the queue: what expires, what starts -/
theorem xw_loop {now nx dn B w : Nat} (hnx : nx < 2 ^ 30) : ∀ d k : Nat, k + d = w → ∀ (l : Nat) (dn : Nat) (u : SX) (v : SY), md_R now nx dn B l k w u v →
    ∃ u' v' l', md_R now nx dn B 0 0 l' u' v' ∧ (∀ (P : SX → Prop) (n : Nat), d < n → P u' → xx_W P n (nI l) (nI k) u) ∧ (∀ (P : SY → Prop) (n : Nat), d < n → (∃ n245 : Nat, yy_S P n245 0 0 v') → yy_W P n (nI l) (nI k) v) := by
  intro d
  induction d with
  | zero =>
    intro k hk l dn u v hR
    have e : k = w := by omega
    subst e
    obtain ⟨rc, qn, zae, zal, zan, zat, zbr, zca, zcl, zcm, zcr, zen, zfa, zfi, zho, zhs, zky, zpa, zpt, zqx, zqy, zra, zre, zrp, zrs, zru, zse, zsi, zsl, zso, zst, zsu, zti, ztk, ztr, ztu, zup, zwe, zwl, zwo, zto, rfl, rfl, hset, hcli, hsrv, hrt, hfnd, hreq, hrun, hqs, htot⟩ := hR
    have le : nI k ≤ nI k := Int32.le_rfl
    have hR' : md_R now nx dn B 0 0 l (nI now, nI rc, nI l, zse, zto, ztu, zwe, zsl, zpa, zbr, zup, zti, zfa, zcr, zru, zsu, zfi, zrp, zrs, zca, zre, ztk, zho, zhs, zst, zcl, zpt, zky, zwo, zra, zcm, zen, zat, zan, ztr, zae, zal, zqx) (nI now, nI rc, nI nx, nI l, zwe, zsl, zpa, zti, zfa, zcr, zsu, zsi, zwl, zbr, zup, zrp, zrs, zse, zca, zre, ztk, zho, zhs, zcl, zpt, zky, zwo, zra, zst, zat, zan, ztr, zcm, zen, zae, zal, zqy, zto, ztu, zso) := md_mk hset hcli hsrv hrt hfnd hreq hrun (iv_q_end hqs) htot
    refine ⟨_, _, l, hR', fun P n hn hp => ?_, fun P n hn hp => ?_⟩
    · obtain ⟨m, rfl, hm⟩ := fu_m hn
      exact br_t le hp
    · obtain ⟨m, rfl, hm⟩ := fu_m hn
      exact br_t le hp
  | succ d ih =>
    intro k hk l dn u v hR
    obtain ⟨rc, qn, zae, zal, zan, zat, zbr, zca, zcl, zcm, zcr, zen, zfa, zfi, zho, zhs, zky, zpa, zpt, zqx, zqy, zra, zre, zrp, zrs, zru, zse, zsi, zsl, zso, zst, zsu, zti, ztk, ztr, ztu, zup, zwe, zwl, zwo, zto, rfl, rfl, hset, hcli, hsrv, hrt, hfnd, hreq, hrun, hqs, htot⟩ := hR
    obtain ⟨q1, q2, q3, q4, q5, q6⟩ := hqs
    have hkw : k < w := by omega
    obtain ⟨k1, k2, k3⟩ := q5 k (Or.inr ⟨Nat.le_refl _, hkw⟩)
    have hq : qn k % 32 < 32 := Nat.mod_lt _ (by decide)
    have hqn : qn k % 32 < nx := Nat.lt_of_le_of_lt (Nat.mod_le _ _) k2
    have hqi : vp_in (nI (qn k % 32)) 32 := vp_in_nI hq (by decide)
    have eq : (nI (qn k % 32)).toNatClampNeg = qn k % 32 := nI_clamp (by omega)
    have ek : (nI k).toNatClampNeg = k := nI_clamp (by omega)
    have el : (nI l).toNatClampNeg = l := nI_clamp (by omega)
    have k8 : vp_in (nI k) 8 := vp_in_nI (by omega) (by decide)
    have k9 : vp_in (nI k) 9 := vp_in_nI (by omega) (by decide)
    have l8 : vp_in (nI l) 8 := vp_in_nI (by omega) (by decide)
    have l9 : vp_in (nI l) 9 := vp_in_nI (by omega) (by decide)
    have hn : ¬ nI w ≤ nI k := nI_ge hkw (by omega)
    have h0 : ¬ (32 : Int32) = 0 := by decide
    have ex : zqx k &&& 31 = nI (qn k % 32) := by rw [k1]; exact ms_slot (by omega)
    have ey : zqy k - zqy k / 32 * 32 = nI (qn k % 32) := by rw [q4 k (by omega), k1]; exact ms_rem (by omega)
    have hqs : iv_q l k w nx qn zqx zqy zst := ⟨q1, q2, q3, q4, q5, q6⟩
    by_cases z : nI now - zcm (qn k % 32) < zse 5
    · have hR' : md_R now nx dn B (l + 1) (k + 1) w (nI now, nI rc, nI w, zse, zto, ztu, zwe, zsl, zpa, zbr, zup, zti, zfa, zcr, zru, zsu, zfi, zrp, zrs, zca, zre, ztk, zho, zhs, zst, zcl, zpt, zky, zwo, zra, zcm, zen, zat, zan, ztr, zae, zal, upd zqx l (zqx k)) (nI now, nI rc, nI nx, nI w, zwe, zsl, zpa, zti, zfa, zcr, zsu, zsi, zwl, zbr, zup, zrp, zrs, zse, zca, zre, ztk, zho, zhs, zcl, zpt, zky, zwo, zra, zst, zat, zan, ztr, zcm, zen, zae, zal, upd zqy l (zqy k), zto, ztu, zso) := md_mk hset hcli hsrv hrt hfnd hreq hrun (iv_q_keep hqs hkw) htot
      obtain ⟨u2, v2, l2, hR2, X2, Y2⟩ := ih (k + 1) (by omega) (l + 1) dn _ _ hR'
      refine ⟨u2, v2, l2, hR2, fun P n hn' hp => ?_, fun P n hn' hp => ?_⟩
      · obtain ⟨m, rfl, hm⟩ := fu_m hn'
        refine br_f hn ⟨k8, ?_⟩
        rw [ek, el]
        refine nm_r ex ⟨hqi, ?_⟩
        rw [eq]
        exact br_t z ⟨k8, l8, nm_e (nm_r (nI_1 l) (nm_r (nI_1 k) (X2 P m (by omega) hp)))⟩
      · obtain ⟨m, rfl, hm⟩ := fu_m hn'
        refine br_f hn ⟨k9, h0, ?_⟩
        rw [ek, el]
        refine nm_r ey ⟨hqi, ?_⟩
        rw [eq]
        exact br_t z (nm_r (nI_1 l) ⟨k9, l9, nm_e (nm_r (nI_1 k) (Y2 P m (by omega) hp))⟩)
    · have hR' : md_R now nx dn B l (k + 1) w (nI now, nI rc, nI w, zse, vp_updL zto 4 (zto 4 + 1), ztu, zwe, zsl, zpa, zbr, zup, zti, zfa, zcr, zru, zsu, zfi, zrp, zrs, zca, zre, ztk, zho, zhs, upd zst (qn k % 32) 4, zcl, zpt, zky, zwo, zra, zcm, upd zen (qn k % 32) (nI now), zat, zan, ztr, zae, zal, zqx) (nI now, nI rc, nI nx, nI w, zwe, zsl, zpa, zti, zfa, zcr, zsu, zsi, zwl, zbr, zup, zrp, zrs, zse, zca, zre, ztk, zho, zhs, zcl, zpt, zky, zwo, zra, upd zst (qn k % 32) 4, zat, zan, ztr, zcm, upd zen (qn k % 32) (nI now), zae, zal, zqy, vp_updL zto 4 (zto 4 + 1), ztu, zso) :=
        md_mk hset hcli hsrv hrt hfnd (iv_req_st hreq (by decide)) (iv_run_same hrun hqn hq (by rw [k3]; decide) (by decide)) (iv_q_drop hqs hkw) (iv_tot_h htot (by decide) (by decide))
      obtain ⟨u2, v2, l2, hR2, X2, Y2⟩ := ih (k + 1) (by omega) l dn _ _ hR'
      refine ⟨u2, v2, l2, hR2, fun P n hn' hp => ?_, fun P n hn' hp => ?_⟩
      · obtain ⟨m, rfl, hm⟩ := fu_m hn'
        refine br_f hn ⟨k8, ?_⟩
        rw [ek]
        refine nm_r ex ⟨hqi, ?_⟩
        rw [eq]
        exact br_f z (fi_X now rc w zae zal zan zat zbr zca zcl zcm zcr zen zfa zfi zho zhs zky zpa zpt zqx zra zre zrp zrs zru zse zsl zst zsu zti ztk ztr ztu zup zwe zwo zto (h := 4) hq (by decide) _ (nm_r (nI_1 k) (X2 P m (by omega) hp)))
      · obtain ⟨m, rfl, hm⟩ := fu_m hn'
        refine br_f hn ⟨k9, h0, ?_⟩
        rw [ek]
        refine nm_r ey ⟨hqi, ?_⟩
        rw [eq]
        exact br_f z (fi_Y now rc w nx zae zal zan zat zbr zca zcl zcm zcr zen zfa zho zhs zky zpa zpt zqy zra zre zrp zrs zse zsi zsl zso zsu zst zti ztk ztr ztu zup zwe zwl zwo zto (h := 4) hq (by decide) _ (nm_r (nI_1 k) (Y2 P m (by omega) hp)))
theorem xs_loop {now nx B w : Nat} (hnx : nx < 2 ^ 30) : ∀ d k : Nat, k + d = w → ∀ (l : Nat) (dn : Nat) (u : SX) (v : SY), md_R now nx dn B l k w u v →
    ∃ u' v' l', md_R now nx dn B 0 0 l' u' v' ∧ (∀ (P : SX → Prop) (n : Nat), d < n → P u' → xx_S P n (nI l) (nI k) u) ∧ (∀ (P : SY → Prop) (n : Nat), d < n → P v' → yy_S P n (nI l) (nI k) v) := by
  intro d
  induction d with
  | zero =>
    intro k hk l dn u v hR
    have e : k = w := by omega
    subst e
    obtain ⟨rc, qn, zae, zal, zan, zat, zbr, zca, zcl, zcm, zcr, zen, zfa, zfi, zho, zhs, zky, zpa, zpt, zqx, zqy, zra, zre, zrp, zrs, zru, zse, zsi, zsl, zso, zst, zsu, zti, ztk, ztr, ztu, zup, zwe, zwl, zwo, zto, rfl, rfl, hset, hcli, hsrv, hrt, hfnd, hreq, hrun, hqs, htot⟩ := hR
    have le : nI k ≤ nI k := Int32.le_rfl
    have hR' : md_R now nx dn B 0 0 l (nI now, nI rc, nI l, zse, zto, ztu, zwe, zsl, zpa, zbr, zup, zti, zfa, zcr, zru, zsu, zfi, zrp, zrs, zca, zre, ztk, zho, zhs, zst, zcl, zpt, zky, zwo, zra, zcm, zen, zat, zan, ztr, zae, zal, zqx) (nI now, nI rc, nI nx, nI l, zwe, zsl, zpa, zti, zfa, zcr, zsu, zsi, zwl, zbr, zup, zrp, zrs, zse, zca, zre, ztk, zho, zhs, zcl, zpt, zky, zwo, zra, zst, zat, zan, ztr, zcm, zen, zae, zal, zqy, zto, ztu, zso) := md_mk hset hcli hsrv hrt hfnd hreq hrun (iv_q_end hqs) htot
    refine ⟨_, _, l, hR', fun P n hn hp => ?_, fun P n hn hp => ?_⟩
    · obtain ⟨m, rfl, hm⟩ := fu_m hn
      exact br_t le hp
    · obtain ⟨m, rfl, hm⟩ := fu_m hn
      exact br_t le hp
  | succ d ih =>
    intro k hk l dn u v hR
    obtain ⟨rc, qn, zae, zal, zan, zat, zbr, zca, zcl, zcm, zcr, zen, zfa, zfi, zho, zhs, zky, zpa, zpt, zqx, zqy, zra, zre, zrp, zrs, zru, zse, zsi, zsl, zso, zst, zsu, zti, ztk, ztr, ztu, zup, zwe, zwl, zwo, zto, rfl, rfl, hset, hcli, hsrv, hrt, hfnd, hreq, hrun, hqs, htot⟩ := hR
    obtain ⟨q1, q2, q3, q4, q5, q6⟩ := hqs
    have hkw : k < w := by omega
    obtain ⟨k1, k2, k3⟩ := q5 k (Or.inr ⟨Nat.le_refl _, hkw⟩)
    have hq : qn k % 32 < 32 := Nat.mod_lt _ (by decide)
    have hqn : qn k % 32 < nx := Nat.lt_of_le_of_lt (Nat.mod_le _ _) k2
    have ek : (nI k).toNatClampNeg = k := nI_clamp (by omega)
    have el : (nI l).toNatClampNeg = l := nI_clamp (by omega)
    have k8 : vp_in (nI k) 8 := vp_in_nI (by omega) (by decide)
    have k9 : vp_in (nI k) 9 := vp_in_nI (by omega) (by decide)
    have l8 : vp_in (nI l) 8 := vp_in_nI (by omega) (by decide)
    have l9 : vp_in (nI l) 9 := vp_in_nI (by omega) (by decide)
    have hn : ¬ nI w ≤ nI k := nI_ge hkw (by omega)
    have h0 : ¬ (32 : Int32) = 0 := by decide
    have ex : zqx (nI k).toNatClampNeg &&& 31 = nI (qn k % 32) := by rw [ek, k1]; exact ms_slot (by omega)
    have ey : zqy (nI k).toNatClampNeg - zqy (nI k).toNatClampNeg / 32 * 32 = nI (qn k % 32) := by rw [ek, q4 k (by omega), k1]; exact ms_rem (by omega)
    have hqs : iv_q l k w nx qn zqx zqy zst := ⟨q1, q2, q3, q4, q5, q6⟩
    obtain ⟨hcl, hky, hpt, hat⟩ := hreq (qn k % 32) hq
    have eux : upd zqx (nI l).toNatClampNeg (zqx (nI k).toNatClampNeg) = upd zqx l (zqx k) := by rw [el, ek]
    have euy : upd zqy (nI l).toNatClampNeg (zqy (nI k).toNatClampNeg) = upd zqy l (zqy k) := by rw [el, ek]
    rcases am_pair now rc w nx zae zal zan zat zbr zca zcl zcm zcr zen zfa zfi zho zhs zky zpa zpt zqx zqy zra zre zrp zrs zru zse zsi zsl zso zst zsu zst zti ztk ztr ztu zup zwe zwl zwo zto hset hcli hsrv hrt (by omega) hrun.1 hrun.2 hq hcl hky hpt with ⟨aX, aY⟩ | ⟨s', cr', al', ae', an', tr', hs', aX, aY⟩
    · have hR' : md_R now nx dn B (l + 1) (k + 1) w (nI now, nI rc, nI w, zse, zto, ztu, zwe, zsl, zpa, zbr, zup, zti, zfa, zcr, zru, zsu, zfi, zrp, zrs, zca, zre, ztk, zho, zhs, zst, zcl, zpt, zky, zwo, zra, zcm, zen, zat, zan, ztr, zae, zal, upd zqx l (zqx k)) (nI now, nI rc, nI nx, nI w, zwe, zsl, zpa, zti, zfa, zcr, zsu, zsi, zwl, zbr, zup, zrp, zrs, zse, zca, zre, ztk, zho, zhs, zcl, zpt, zky, zwo, zra, zst, zat, zan, ztr, zcm, zen, zae, zal, upd zqy l (zqy k), zto, ztu, zso) := md_mk hset hcli hsrv hrt hfnd hreq hrun (iv_q_keep hqs hkw) htot
      obtain ⟨u2, v2, l2, hR2, X2, Y2⟩ := ih (k + 1) (by omega) (l + 1) dn _ _ hR'
      refine ⟨u2, v2, l2, hR2, fun P n hn' hp => ?_, fun P n hn' hp => ?_⟩
      · obtain ⟨m, rfl, hm⟩ := fu_m hn'
        exact br_f hn ⟨k8, nm_r ex (aX _ (br_t rfl ⟨k8, l8, nm_r eux (nm_r (nI_1 l) (nm_r (nI_1 k) (X2 P m (by omega) hp)))⟩))⟩
      · obtain ⟨m, rfl, hm⟩ := fu_m hn'
        refine br_f hn ⟨k9, h0, ?_⟩
        rw [ey]
        exact aY _ (br_t rfl (nm_r (nI_1 l) ⟨k9, l9, nm_r euy (nm_r (nI_1 k) (Y2 P m (by omega) hp))⟩))
    · have hR' : md_R now nx dn B l (k + 1) w (nI now, nI rc, nI w, zse, zto, ztu, zwe, zsl, zpa, zbr, zup, zti, zfa, cr', upd zru s' (zru s' + 1), zsu, zfi, zrp, zrs, zca, zre, ztk, zho, zhs, upd zst (qn k % 32) 1, zcl, zpt, zky, zwo, zra, zcm, zen, upd zat (qn k % 32) (nI s'), an', tr', ae', al', zqx) (nI now, nI rc, nI nx, nI w, zwe, zsl, zpa, zti, zfa, cr', zsu, zsi, zwl, zbr, zup, zrp, zrs, zse, zca, zre, ztk, zho, zhs, zcl, zpt, zky, zwo, zra, upd zst (qn k % 32) 1, upd zat (qn k % 32) (nI s'), an', tr', zcm, zen, ae', al', zqy, zto, ztu, zso) :=
        md_mk hset hcli hsrv hrt hfnd (iv_req_start hreq hs') (iv_run_start hrun hqn hq hs' (by rw [k3]; decide)) (iv_q_drop hqs hkw) htot
      obtain ⟨u2, v2, l2, hR2, X2, Y2⟩ := ih (k + 1) (by omega) l dn _ _ hR'
      refine ⟨u2, v2, l2, hR2, fun P n hn' hp => ?_, fun P n hn' hp => ?_⟩
      · obtain ⟨m, rfl, hm⟩ := fu_m hn'
        exact br_f hn ⟨k8, nm_r ex (aX _ (br_f rd_1n0 (nm_r (nI_1 k) (X2 P m (by omega) hp))))⟩
      · obtain ⟨m, rfl, hm⟩ := fu_m hn'
        refine br_f hn ⟨k9, h0, ?_⟩
        rw [ey]
        exact aY _ (br_f rd_1n0 (nm_r (nI_1 k) (Y2 P m (by omega) hp)))
