/-! an attempt that failed; the attempts that end in a unit -/
theorem iv_srv_ti {we ti : Nat → Int32} {s : Nat} {x : Int32} (h : iv_srv we ti) (hx : x = -1 ∨ 0 ≤ x) : iv_srv we (upd ti s x) := by
  intro j hj
  refine ⟨(h j hj).1, ?_⟩
  by_cases e : j = s
  · rw [e, pk_us]; exact hx
  · rw [pk_un e]; exact (h j hj).2
theorem iv_cli_ho {re ho : Nat → Int32} {c s : Nat} (h : iv_cli re ho) (hs : s < 6) : iv_cli re (upd ho c (nI s)) := by
  intro j hj
  refine ⟨(h j hj).1, ?_⟩
  by_cases e : j = c
  · rw [e, pk_us]; exact Or.inr ⟨s, hs, rfl⟩
  · rw [pk_un e]; exact (h j hj).2
theorem iv_tot_h {nx dn h : Nat} {to : Nat → Int64} {x : Int64} (ht : iv_tot nx dn to) (h0 : h ≠ 0) (h2 : h ≠ 2) : iv_tot nx dn (vp_updL to h x) :=
  ⟨by rw [pk_uLn (Ne.symm h0)]; exact ht.1, by rw [pk_uLn (Ne.symm h2)]; exact ht.2⟩
section
variable (now rc ql nx : Nat) (zae zal zan zat zbr zca zcl zcm zcr zen zfa zfi zho zhs zky zpa zpt zqx zqy zra zre zrp zrs zru zse zsi zsl zso zst zsu zsy zti ztk ztr ztu zup zwe zwl zwo : Nat → Int32) (zto : Nat → Int64)
theorem f5_pair {dn B q : Nat} {qn : Nat → Nat} (hset : iv_set zse) (hcli : iv_cli zre zho) (hsrv : iv_srv zwe zti) (hrt : iv_rt rc zrs) (hfnd : iv_fnd B zfi zsi zwl) (hreq : iv_req zcl zky zpt zst zat) (hrun : iv_run nx (upd zst q 3) zat zru)
    (hqs : iv_q 0 0 ql nx qn zqx zqy zst) (htot : iv_tot nx dn zto) (hnx : nx < 2 ^ 31) (hq : q < 32) (hqn : q < nx) (hst : zst q = 1) :
    ∃ u' v', md_R now nx dn B 0 0 ql u' v' ∧ (∀ P : SX → Prop, P u' → wX_fail_54 P (nI q) (nI now) (nI rc) (nI ql) zse zto ztu zwe zsl zpa zbr zup zti zfa zcr zru zsu zfi zrp zrs zca zre ztk zho zhs zst zcl zpt zky zwo zra zcm zen zat zan ztr zae zal zqx) ∧ (∀ P : SY → Prop, P v' → wY_finish_185 P (nI q) (nI now) (nI rc) (nI nx) (nI ql) zwe zsl zpa zti zfa zcr zsu zsi zwl zbr zup zrp zrs zse zca zre ztk zho zhs zcl zpt zky zwo zra (upd zst q 3) zat zan ztr zcm zen zae zal zqy zto ztu zso) := by
  have hqi : vp_in (nI q) 32 := vp_in_nI hq (by decide)
  have hn0 : ¬ zst q = 0 := by rw [hst]; decide
  obtain ⟨hcl, hky, hpt, hat⟩ := hreq q hq
  have hA : md_R now nx dn B 0 0 ql (nI now, nI rc, nI ql, zse, vp_updL zto 3 (zto 3 + 1), ztu, zwe, zsl, zpa, zbr, zup, zti, zfa, zcr, zru, zsu, zfi, zrp, zrs, zca, zre, ztk, zho, zhs, upd zst q 3, zcl, zpt, zky, zwo, zra, zcm, upd zen q (nI now), zat, zan, ztr, zae, zal, zqx) (nI now, nI rc, nI nx, nI ql, zwe, zsl, zpa, zti, zfa, zcr, zsu, zsi, zwl, zbr, zup, zrp, zrs, zse, zca, zre, ztk, zho, zhs, zcl, zpt, zky, zwo, zra, upd zst q 3, zat, zan, ztr, zcm, upd zen q (nI now), zae, zal, zqy, vp_updL zto 3 (zto 3 + 1), ztu, zso) :=
    md_mk hset hcli hsrv hrt hfnd (iv_req_st hreq (by decide)) hrun (iv_q_ne hqs hn0) (iv_tot_h htot (by decide) (by decide))
  have xA : ∀ P : SX → Prop, P (nI now, nI rc, nI ql, zse, vp_updL zto 3 (zto 3 + 1), ztu, zwe, zsl, zpa, zbr, zup, zti, zfa, zcr, zru, zsu, zfi, zrp, zrs, zca, zre, ztk, zho, zhs, upd zst q 3, zcl, zpt, zky, zwo, zra, zcm, upd zen q (nI now), zat, zan, ztr, zae, zal, zqx) → wX_fail_77 P (nI q) (nI now) (nI rc) (nI ql) zse zto ztu zwe zsl zpa zbr zup zti zfa zcr zru zsu zfi zrp zrs zca zre ztk zho zhs zst zcl zpt zky zwo zra zcm zen zat zan ztr zae zal zqx := fun P hP => fi_X now rc ql zae zal zan zat zbr zca zcl zcm zcr zen zfa zfi zho zhs zky zpa zpt zqx zra zre zrp zrs zru zse zsl zst zsu zti ztk ztr ztu zup zwe zwo zto (h := 3) hq (by decide) _ hP
  have yA : ∀ P : SY → Prop, P (nI now, nI rc, nI nx, nI ql, zwe, zsl, zpa, zti, zfa, zcr, zsu, zsi, zwl, zbr, zup, zrp, zrs, zse, zca, zre, ztk, zho, zhs, zcl, zpt, zky, zwo, zra, upd zst q 3, zat, zan, ztr, zcm, upd zen q (nI now), zae, zal, zqy, vp_updL zto 3 (zto 3 + 1), ztu, zso) → wY_finish_212 P (nI q) (nI now) (nI rc) (nI nx) (nI ql) zwe zsl zpa zti zfa zcr zsu zsi zwl zbr zup zrp zrs zse zca zre ztk zho zhs zcl zpt zky zwo zra (upd zst q 3) zat zan ztr zcm zen zae zal zqy zto ztu zso := fun P hP => br_t rfl (fi_Y now rc ql nx zae zal zan zat zbr zca zcl zcm zcr zen zfa zho zhs zky zpa zpt zqy zra zre zrp zrs zse zsi zsl zso zsu (upd zst q 3) zti ztk ztr ztu zup zwe zwl zwo zto (h := 3) hq (by decide) _ (by rw [ud_ud]; exact hP))
  by_cases z : zse 2 < zan (nI q).toNatClampNeg
  · exact ⟨_, _, hA, fun P hP => ⟨hqi, br_t z (xA P hP)⟩, fun P hP => ⟨hqi, br_t z (yA P hP)⟩⟩
  · rcases am_pair now rc ql nx zae zal zan zat zbr zca zcl zcm zcr zen zfa zfi zho zhs zky zpa zpt zqx zqy zra zre zrp zrs zru zse zsi zsl zso zst zsu (upd zst q 3) zti ztk ztr ztu zup zwe zwl zwo zto hset hcli hsrv hrt hnx hrun.1 hrun.2 hq hcl hky hpt with ⟨aX, aY⟩ | ⟨s', cr', al', ae', an', tr', hs', aX, aY⟩
    · exact ⟨_, _, hA, fun P hP => ⟨hqi, br_f z (aX _ (br_t rfl (xA P hP)))⟩, fun P hP => ⟨hqi, br_f z (aY _ (br_t rfl (yA P hP)))⟩⟩
    · have hr2 := iv_run_start (s := s') hrun hqn hq hs' (by rw [pk_us]; decide)
      rw [ud_ud] at hr2
      have hB : md_R now nx dn B 0 0 ql (nI now, nI rc, nI ql, zse, zto, ztu, zwe, zsl, zpa, zbr, zup, zti, zfa, cr', upd zru s' (zru s' + 1), zsu, zfi, zrp, zrs, zca, zre, ztk, zho, zhs, upd zst q 1, zcl, zpt, zky, zwo, zra, zcm, zen, upd zat q (nI s'), an', tr', ae', al', zqx) (nI now, nI rc, nI nx, nI ql, zwe, zsl, zpa, zti, zfa, cr', zsu, zsi, zwl, zbr, zup, zrp, zrs, zse, zca, zre, ztk, zho, zhs, zcl, zpt, zky, zwo, zra, upd zst q 1, upd zat q (nI s'), an', tr', zcm, zen, ae', al', zqy, zto, ztu, zso) :=
        md_mk hset hcli hsrv hrt hfnd (iv_req_start hreq hs') hr2 (iv_q_ne hqs hn0) htot
      exact ⟨_, _, hB, fun P hP => ⟨hqi, br_f z (aX _ (br_f rd_1n0 hP))⟩, fun P hP => ⟨hqi, br_f z (aY _ (br_f rd_1n0 (br_f rd_1n0 (by rw [ud_ud]; exact hP))))⟩⟩
theorem fl_pair {dn B q s : Nat} {qn : Nat → Nat} (hset : iv_set zse) (hcli : iv_cli zre zho) (hsrv : iv_srv zwe zti) (hrt : iv_rt rc zrs) (hfnd : iv_fnd B zfi zsi zwl) (hreq : iv_req zcl zky zpt zst zat) (hrun : iv_run nx zst zat zru)
    (hqs : iv_q 0 0 ql nx qn zqx zqy zst) (htot : iv_tot nx dn zto) (hnow : now < 2 ^ 30) (hnx : nx < 2 ^ 31) (hq : q < 32) (hqn : q < nx) (hst : zst q = 1) (hs : s < 6) (hat : zat q = nI s) :
    ∃ u' v', md_R now nx dn B 0 0 ql u' v' ∧ (∀ P : SX → Prop, P u' → wpX_fail P (nI now, nI rc, nI ql, zse, zto, ztu, zwe, zsl, zpa, zbr, zup, zti, zfa, zcr, upd zru s (zru s - 1), zsu, zfi, zrp, zrs, zca, zre, ztk, zho, zhs, zst, zcl, zpt, zky, zwo, zra, zcm, zen, zat, zan, ztr, zae, zal, zqx) (nI q)) ∧ (∀ P : SY → Prop, P v' → wY_finish_132 P (nI q) (nI s) (nI now) (nI rc) (nI nx) (nI ql) zwe zsl zpa zti zfa zcr zsu zsi zwl zbr zup zrp zrs zse zca zre ztk zho zhs zcl zpt zky zwo zra zst zat zan ztr zcm zen zae zal zqy zto ztu zso) := by
  have hqi : vp_in (nI q) 32 := vp_in_nI hq (by decide)
  have hsi : vp_in (nI s) 6 := vp_in_nI hs (by decide)
  have eq : (nI q).toNatClampNeg = q := nI_clamp (by omega)
  have es : (nI s).toNatClampNeg = s := nI_clamp (by omega)
  have hat' : zat (nI q).toNatClampNeg = nI s := by rw [eq]; exact hat
  have hr2 := iv_run_stop (w := 3) hrun hqn hq hs hst hat (by decide)
  have est : upd zst (nI q).toNatClampNeg 3 = upd zst q 3 := by rw [eq]
  have efa : upd zfa (nI s).toNatClampNeg (zfa (nI s).toNatClampNeg + 1) = upd zfa s (zfa s + 1) := by rw [es]
  have eti : upd zti (nI s).toNatClampNeg (nI now + zse 3) = upd zti s (nI now + zse 3) := by rw [es]
  obtain ⟨r, hr, er⟩ := hset.2.2
  have hge : 0 ≤ nI now + zse 3 := by rw [er, nI_add]; exact nI_pos' (by omega)
  have hsrv2 : iv_srv zwe (upd zti s (nI now + zse 3)) := iv_srv_ti hsrv (Or.inr hge)
  by_cases t : zti s = -1
  · have t0 : ¬ 0 ≤ zti s := by rw [t]; decide
    by_cases f : (upd zfa s (zfa s + 1)) s < 3
    · obtain ⟨u', v', hR, fX, fY⟩ := f5_pair now rc ql nx zae zal zan zat zbr zca zcl zcm zcr zen (upd zfa s (zfa s + 1)) zfi zho zhs zky zpa zpt zqx zqy zra zre zrp zrs (upd zru s (zru s - 1)) zse zsi zsl zso zst zsu zti ztk ztr ztu zup zwe zwl zwo zto hset hcli hsrv hrt hfnd hreq hr2 hqs htot hnx hq hqn hst
      refine ⟨u', v', hR, fun P hP => ?_, fun P hP => ?_⟩
      · refine ⟨hqi, nm_r hat' ⟨hsi, hsi, nm_r efa ⟨hsi, ?_⟩⟩⟩
        rw [es]
        exact br_t t ⟨hsi, br_t f (fX P hP)⟩
      · refine ⟨hqi, nm_r est ⟨hsi, hsi, nm_r efa ⟨hsi, ?_⟩⟩⟩
        rw [es]
        exact br_f t0 ⟨hsi, br_t f (fY P hP)⟩
    · obtain ⟨u', v', hR, fX, fY⟩ := f5_pair now rc ql nx zae zal zan zat zbr zca zcl zcm zcr zen (upd zfa s (zfa s + 1)) zfi zho zhs zky zpa zpt zqx zqy zra zre zrp zrs (upd zru s (zru s - 1)) zse zsi zsl zso zst zsu (upd zti s (nI now + zse 3)) ztk ztr ztu zup zwe zwl zwo zto hset hcli hsrv2 hrt hfnd hreq hr2 hqs htot hnx hq hqn hst
      refine ⟨u', v', hR, fun P hP => ?_, fun P hP => ?_⟩
      · refine ⟨hqi, nm_r hat' ⟨hsi, hsi, nm_r efa ⟨hsi, ?_⟩⟩⟩
        rw [es]
        exact br_t t ⟨hsi, br_f f ⟨hsi, nm_r eti (fX P hP)⟩⟩
      · refine ⟨hqi, nm_r est ⟨hsi, hsi, nm_r efa ⟨hsi, ?_⟩⟩⟩
        rw [es]
        exact br_f t0 ⟨hsi, br_f f ⟨hsi, nm_r eti (fY P hP)⟩⟩
  · have t0 : 0 ≤ zti s := (hsrv s hs).2.resolve_left t
    obtain ⟨u', v', hR, fX, fY⟩ := f5_pair now rc ql nx zae zal zan zat zbr zca zcl zcm zcr zen (upd zfa s (zfa s + 1)) zfi zho zhs zky zpa zpt zqx zqy zra zre zrp zrs (upd zru s (zru s - 1)) zse zsi zsl zso zst zsu (upd zti s (nI now + zse 3)) ztk ztr ztu zup zwe zwl zwo zto hset hcli hsrv2 hrt hfnd hreq hr2 hqs htot hnx hq hqn hst
    refine ⟨u', v', hR, fun P hP => ?_, fun P hP => ?_⟩
    · refine ⟨hqi, nm_r hat' ⟨hsi, hsi, nm_r efa ⟨hsi, ?_⟩⟩⟩
      rw [es]
      exact br_f t ⟨hsi, nm_r eti (fX P hP)⟩
    · refine ⟨hqi, nm_r est ⟨hsi, hsi, nm_r efa ⟨hsi, ?_⟩⟩⟩
      rw [es]
      exact br_t t0 ⟨hsi, nm_r eti (fY P hP)⟩
theorem eo_pair {dn B q s : Nat} {qn : Nat → Nat} (hset : iv_set zse) (hcli : iv_cli zre zho) (hsrv : iv_srv zwe zti) (hrt : iv_rt rc zrs) (hfnd : iv_fnd B zfi zsi zwl) (hreq : iv_req zcl zky zpt zst zat) (hrun : iv_run nx zst zat zru)
    (hqs : iv_q 0 0 ql nx qn zqx zqy zst) (htot : iv_tot nx dn zto) (hnow : now < 2 ^ 30) (hnx : nx < 2 ^ 31) (hdn : dn < 2 ^ 31) (hq : q < 32) (hqn : q < nx) (hst : zst q = 1) (hs : s < 6) (hat : zat q = nI s) :
    ∃ u' v' dn', dn' ≤ dn + 1 ∧ md_R now nx dn' B 0 0 ql u' v' ∧
    (∀ P : SX → Prop, P u' → ((zal q = 0 → (vp_in (nI s) 6 ∧ ((zbr s = 0 → wpX_succeed P (nI now, nI rc, nI ql, zse, zto, ztu, zwe, zsl, zpa, zbr, zup, zti, zfa, zcr, upd zru s (zru s - 1), zsu, zfi, zrp, zrs, zca, zre, ztk, zho, zhs, zst, zcl, zpt, zky, zwo, zra, zcm, zen, zat, zan, ztr, zae, zal, zqx) (nI q)) ∧ (¬ zbr s = 0 → wpX_fail P (nI now, nI rc, nI ql, zse, zto, ztu, zwe, zsl, zpa, zbr, zup, zti, zfa, zcr, upd zru s (zru s - 1), zsu, zfi, zrp, zrs, zca, zre, ztk, zho, zhs, zst, zcl, zpt, zky, zwo, zra, zcm, zen, zat, zan, ztr, zae, zal, zqx) (nI q))))) ∧ (¬ zal q = 0 → wpX_fail P (nI now, nI rc, nI ql, zse, zto, ztu, zwe, zsl, zpa, zbr, zup, zti, zfa, zcr, upd zru s (zru s - 1), zsu, zfi, zrp, zrs, zca, zre, ztk, zho, zhs, zst, zcl, zpt, zky, zwo, zra, zcm, zen, zat, zan, ztr, zae, zal, zqx) (nI q)))) ∧
    (∀ P : SY → Prop, P v' → wpY_finish P (nI now, nI rc, nI nx, nI ql, zwe, zsl, zpa, zti, zfa, zcr, zsu, zsi, zwl, zbr, zup, zrp, zrs, zse, zca, zre, ztk, zho, zhs, zcl, zpt, zky, zwo, zra, zst, zat, zan, ztr, zcm, zen, zae, zal, zqy, zto, ztu, zso) (nI q)) := by
  have hqi : vp_in (nI q) 32 := vp_in_nI hq (by decide)
  have hsi : vp_in (nI s) 6 := vp_in_nI hs (by decide)
  have eq : (nI q).toNatClampNeg = q := nI_clamp (by omega)
  have es : (nI s).toNatClampNeg = s := nI_clamp (by omega)
  have hat' : zat (nI q).toNatClampNeg = nI s := by rw [eq]; exact hat
  have hn0 : ¬ zst q = 0 := by rw [hst]; decide
  obtain ⟨c, hc, hcl⟩ := (hreq q hq).1
  by_cases a : zal q = 0
  · by_cases b : zbr s = 0
    · have hr2 := iv_run_stop (w := 2) hrun hqn hq hs hst hat (by decide)
      have hR : md_R now nx (dn + 1) B 0 0 ql (nI now, nI rc, nI ql, zse, vp_updL (vp_updL zto 1 (zto 1 + (nI now - zcm q).toInt64)) 2 (lN (dn + 1)), upd ztu (dn % 64) (nI now - zcm q), zwe, zsl, zpa, zbr, zup, upd zti s (-1), upd zfa s 0, zcr, upd zru s (zru s - 1), upd zsu s (zsu s + 1), zfi, zrp, zrs, zca, zre, ztk, upd zho c (nI s), upd zhs c (nI now), upd zst q 2, zcl, zpt, zky, zwo, zra, zcm, upd zen q (nI now), zat, zan, ztr, zae, zal, zqx)
          (nI now, nI rc, nI nx, nI ql, zwe, zsl, zpa, upd zti s (-1), upd zfa s 0, zcr, upd zsu s (zsu s + 1), zsi, zwl, zbr, zup, zrp, zrs, zse, zca, zre, ztk, upd zho c (nI s), upd zhs c (nI now), zcl, zpt, zky, zwo, zra, upd zst q 2, zat, zan, ztr, zcm, upd zen q (nI now), zae, zal, zqy, vp_updL (vp_updL zto 1 (zto 1 + (nI now - zcm q).toInt64)) 2 (lN (dn + 1)), upd ztu (dn % 64) (nI now - zcm q), zso) :=
        md_mk hset (iv_cli_ho hcli hs) (iv_srv_ti hsrv (Or.inl rfl)) hrt hfnd (iv_req_st hreq (by decide)) hr2 (iv_q_ne hqs hn0) ⟨by rw [pk_uLn (by decide), pk_uLn (by decide)]; exact htot.1, pk_uLs⟩
      exact ⟨_, _, dn + 1, Nat.le_refl _, hR, fun P hP => br_t a ⟨hsi, br_t b (sc_X now rc ql zae zal zan zat zbr zca zcl zcm zcr zen zfa zfi zho zhs zky zpa zpt zqx zra zre zrp zrs (upd zru s (zru s - 1)) zse zsl zst zsu zti ztk ztr ztu zup zwe zwo zto hq hs hc hat hcl hdn htot.2 P hP)⟩,
        fun P hP => sc_Y now rc ql nx zae zal zan zat zbr zca zcl zcm zcr zen zfa zho zhs zky zpa zpt zqy zra zre zrp zrs zse zsi zsl zso zsu zst zti ztk ztr ztu zup zwe zwl zwo zto hq hs hc hat hcl hdn htot.2 a b P hP⟩
    · obtain ⟨u', v', hR, fX, fY⟩ := fl_pair now rc ql nx zae zal zan zat zbr zca zcl zcm zcr zen zfa zfi zho zhs zky zpa zpt zqx zqy zra zre zrp zrs zru zse zsi zsl zso zst zsu zti ztk ztr ztu zup zwe zwl zwo zto hset hcli hsrv hrt hfnd hreq hrun hqs htot hnow hnx hq hqn hst hs hat
      refine ⟨u', v', dn, by omega, hR, fun P hP => br_t a ⟨hsi, br_f b (fX P hP)⟩, fun P hP => ?_⟩
      unfold wpY_finish
      rw [eq]
      refine ⟨hqi, nm_r hat ⟨hqi, br_t a ⟨hsi, ?_⟩⟩⟩
      rw [es]
      exact br_f b (fY P hP)
  · obtain ⟨u', v', hR, fX, fY⟩ := fl_pair now rc ql nx zae zal zan zat zbr zca zcl zcm zcr zen zfa zfi zho zhs zky zpa zpt zqx zqy zra zre zrp zrs zru zse zsi zsl zso zst zsu zti ztk ztr ztu zup zwe zwl zwo zto hset hcli hsrv hrt hfnd hreq hrun hqs htot hnow hnx hq hqn hst hs hat
    refine ⟨u', v', dn, by omega, hR, fun P hP => br_f a (fX P hP), fun P hP => ?_⟩
    unfold wpY_finish
    rw [eq]
    exact ⟨hqi, nm_r hat ⟨hqi, br_f a (fY P hP)⟩⟩
end
