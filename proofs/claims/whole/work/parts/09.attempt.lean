/-! choose, attempt -/
section
variable (now rc ql nx : Nat) (zae zal zan zat zbr zca zcl zcm zcr zen zfa zfi zho zhs zky zpa zpt zqx zqy zra zre zrp zrs zru zse zsi zsl zso zst zsu zsy zti ztk ztr ztu zup zwe zwl zwo : Nat → Int32) (zto : Nat → Int64)
theorem po_pair (b : Nat → Bool) (w : Nat → Nat) (hw : ∀ s, s < 6 → w s < 10 ∧ zwe s = nI (w s)) (hR : ∀ s, s < 6 → ∀ P : Int32 → Prop, P (zru s) → wpY_running P (nI now, nI rc, nI nx, nI ql, zwe, zsl, zpa, zti, zfa, zcr, zsu, zsi, zwl, zbr, zup, zrp, zrs, zse, zca, zre, ztk, zho, zhs, zcl, zpt, zky, zwo, zra, zsy, zat, zan, ztr, zcm, zen, zae, zal, zqy, zto, ztu, zso) (nI s)) {q key : Nat} (hq : q < 32) (hk : key < 256) (hky : zky q = nI key) :
    ∃ (r : Int32) (cr' : Nat → Int32), ((r = -1 ∧ cr' = zcr) ∨ ∃ c : Nat, c < 6 ∧ b c = true ∧ r = nI c) ∧
    (∀ P : Int32 → SX → Prop, P r (nI now, nI rc, nI ql, zse, zto, ztu, zwe, zsl, zpa, zbr, zup, zti, zfa, cr', zru, zsu, zfi, zrp, zrs, zca, zre, ztk, zho, zhs, zst, zcl, zpt, zky, zwo, zra, zcm, zen, zat, zan, ztr, zae, zal, zqx) → wX_choose_64 P (mk_m b 6) (nI q) (nI now) (nI rc) (nI ql) zse zto ztu zwe zsl zpa zbr zup zti zfa zcr zru zsu zfi zrp zrs zca zre ztk zho zhs zst zcl zpt zky zwo zra zcm zen zat zan ztr zae zal zqx) ∧
    (¬ mk_m b 6 = 0 → ∀ P : Int32 → SY → Prop, P r (nI now, nI rc, nI nx, nI ql, zwe, zsl, zpa, zti, zfa, cr', zsu, zsi, zwl, zbr, zup, zrp, zrs, zse, zca, zre, ztk, zho, zhs, zcl, zpt, zky, zwo, zra, zsy, zat, zan, ztr, zcm, zen, zae, zal, zqy, zto, ztu, zso) → wY_choose_100 P (nI q) (mk_m b 6) (nI now) (nI rc) (nI nx) (nI ql) zwe zsl zpa zti zfa zcr zsu zsi zwl zbr zup zrp zrs zse zca zre ztk zho zhs zcl zpt zky zwo zra zsy zat zan ztr zcm zen zae zal zqy zto ztu zso) := by
  have hqi : vp_in (nI q) 32 := vp_in_nI hq (by decide)
  have eq : zky (nI q).toNatClampNeg = nI key := by rw [nI_clamp (by omega)]; exact hky
  by_cases z0 : zse 0 = 0
  · obtain ⟨r, cr', h0, hX, hY⟩ := tn_loop now rc ql nx zae zal zan zat zbr zca zcl zcm zcr zen zfa zfi zho zhs zky zpa zpt zqx zqy zra zre zrp zrs zru zse zsi zsl zso zst zsu zsy zti ztk ztr ztu zup zwe zwl zwo zto b 6 0 rfl (-1) 0 zcr (Or.inl ⟨rfl, fun j hj => absurd hj (Nat.not_lt_zero _), rfl⟩)
    refine ⟨r, cr', h0.imp (fun h => ⟨h.1, h.2.2⟩) id, fun P hp => nm_e (br_t z0 ⟨7, hX _ 7 (by omega) hp⟩), fun hz P hp => br_t z0 ⟨7, hY ?_ _ 7 (by omega) hp⟩⟩
    intro hr
    rcases h0 with ⟨_, h, _⟩ | ⟨c, hc, _, e⟩
    · exact hz (mk_0.mpr h)
    · exact ms_nI_m1 (by omega) (e.symm.trans hr)
  by_cases z1 : zse 0 = 1
  · obtain ⟨r, h0, hX, hY⟩ := le_loop now rc ql nx zae zal zan zat zbr zca zcl zcm zcr zen zfa zfi zho zhs zky zpa zpt zqx zqy zra zre zrp zrs zru zse zsi zsl zso zst zsu zsy zti ztk ztr ztu zup zwe zwl zwo zto b hR 6 0 rfl (-1) (Or.inl rfl)
    exact ⟨r, zcr, h0.imp (fun h => ⟨h, rfl⟩) id, fun P hp => nm_e (br_f z0 (br_t z1 ⟨7, hX _ 7 (by omega) hp⟩)), fun _ P hp => br_f z0 (br_t z1 ⟨7, hY _ 7 (by omega) hp⟩)⟩
  · obtain ⟨r, h0, hX, hY⟩ := rg_pair now rc ql nx zae zal zan zat zbr zca zcl zcm zcr zen zfa zfi zho zhs zky zpa zpt zqx zqy zra zre zrp zrs zru zse zsi zsl zso zst zsu zsy zti ztk ztr ztu zup zwe zwl zwo zto b w hw hk
    refine ⟨r, zcr, h0.imp (fun h => ⟨h, rfl⟩) id, fun P hp => nm_e (br_f z0 (br_f z1 ⟨hqi, ?_⟩)), fun _ P hp => br_f z0 (br_f z1 ⟨hqi, ?_⟩)⟩
    · rw [eq]; exact hX _ hp
    · rw [eq]; exact hY _ hp
theorem ch_pair (b : Nat → Bool) (w : Nat → Nat) (hw : ∀ s, s < 6 → w s < 10 ∧ zwe s = nI (w s)) (hR : ∀ s, s < 6 → ∀ P : Int32 → Prop, P (zru s) → wpY_running P (nI now, nI rc, nI nx, nI ql, zwe, zsl, zpa, zti, zfa, zcr, zsu, zsi, zwl, zbr, zup, zrp, zrs, zse, zca, zre, ztk, zho, zhs, zcl, zpt, zky, zwo, zra, zsy, zat, zan, ztr, zcm, zen, zae, zal, zqy, zto, ztu, zso) (nI s)) {q key cl : Nat} (hq : q < 32) (hk : key < 256) (hky : zky q = nI key)
    (hc6 : cl < 6) (hcl : zcl q = nI cl) (hho : zho cl = -1 ∨ ∃ h : Nat, h < 6 ∧ zho cl = nI h) (hst : 0 ≤ zse 6) :
    ∃ (r : Int32) (cr' : Nat → Int32), ((r = -1 ∧ cr' = zcr) ∨ ∃ c : Nat, c < 6 ∧ r = nI c) ∧
    (∀ P : Int32 → SX → Prop, P r (nI now, nI rc, nI ql, zse, zto, ztu, zwe, zsl, zpa, zbr, zup, zti, zfa, cr', zru, zsu, zfi, zrp, zrs, zca, zre, ztk, zho, zhs, zst, zcl, zpt, zky, zwo, zra, zcm, zen, zat, zan, ztr, zae, zal, zqx) → wpX_choose P (nI now, nI rc, nI ql, zse, zto, ztu, zwe, zsl, zpa, zbr, zup, zti, zfa, zcr, zru, zsu, zfi, zrp, zrs, zca, zre, ztk, zho, zhs, zst, zcl, zpt, zky, zwo, zra, zcm, zen, zat, zan, ztr, zae, zal, zqx) (mk_m b 6) (nI q)) ∧
    (∀ P : Int32 → SY → Prop, P r (nI now, nI rc, nI nx, nI ql, zwe, zsl, zpa, zti, zfa, cr', zsu, zsi, zwl, zbr, zup, zrp, zrs, zse, zca, zre, ztk, zho, zhs, zcl, zpt, zky, zwo, zra, zsy, zat, zan, ztr, zcm, zen, zae, zal, zqy, zto, ztu, zso) → wY_choose_4 P (nI q) (nI now) (nI rc) (nI nx) (nI ql) zwe zsl zpa zti zfa zcr zsu zsi zwl zbr zup zrp zrs zse zca zre ztk zho zhs zcl zpt zky zwo zra zsy zat zan ztr zcm zen zae zal zqy zto ztu zso 1 (mk_m b 6) (nI 6)) := by
  have hqi : vp_in (nI q) 32 := vp_in_nI hq (by decide)
  have hci : vp_in (nI cl) 6 := vp_in_nI hc6 (by decide)
  have eX : zcl (nI q).toNatClampNeg = nI cl := by rw [nI_clamp (by omega)]; exact hcl
  have eH : (nI cl).toNatClampNeg = cl := nI_clamp (by omega)
  have l66 : (6 : Int32) ≤ nI 6 := by decide
  obtain ⟨r, cr', h0, hX, hY⟩ := po_pair now rc ql nx zae zal zan zat zbr zca zcl zcm zcr zen zfa zfi zho zhs zky zpa zpt zqx zqy zra zre zrp zrs zru zse zsi zsl zso zst zsu zsy zti ztk ztr ztu zup zwe zwl zwo zto b w hw hR hq hk hky
  have h0' : (r = -1 ∧ cr' = zcr) ∨ ∃ c : Nat, c < 6 ∧ r = nI c := h0.imp id (fun ⟨c, a, _, d⟩ => ⟨c, a, d⟩)
  by_cases hz : mk_m b 6 = 0
  · have hb := mk_0.mp hz
    have hr : r = -1 ∧ cr' = zcr := by
      rcases h0 with h | ⟨c, hc, hbc, _⟩
      · exact h
      · rw [hb c hc] at hbc; exact absurd hbc Bool.false_ne_true
    refine ⟨r, cr', h0', fun P hp => ?_, fun P hp => br_t l66 (br_t hz (by rw [hr.1, hr.2] at hp; exact hp))⟩
    rcases hho with hm | ⟨h, hh, hm⟩
    · exact ⟨hqi, nm_r eX ⟨hci, nm_r (show zho (nI cl).toNatClampNeg = -1 by rw [eH]; exact hm) (br_t rfl (hX P hp))⟩⟩
    · exact ⟨hqi, nm_r eX ⟨hci, nm_r (show zho (nI cl).toNatClampNeg = nI h by rw [eH]; exact hm) (br_f (ms_nI_m1 (by omega)) (br_t (mk_b0 hh (hb h hh)) (hX P hp)))⟩⟩
  · rcases hho with hm | ⟨h, hh, hm⟩
    · have eh : zho (nI cl).toNatClampNeg = -1 := by rw [eH]; exact hm
      refine ⟨r, cr', h0', fun P hp => ⟨hqi, nm_r eX ⟨hci, nm_r eh (br_t rfl (hX P hp))⟩⟩, fun P hp => br_t l66 (br_f hz ⟨hqi, ?_⟩)⟩
      rw [eX]
      exact ⟨hci, nm_r eh (br_t ms_m1 (hY hz P hp))⟩
    · have eh : zho (nI cl).toNatClampNeg = nI h := by rw [eH]; exact hm
      have hn1 : ¬ nI h = -1 := ms_nI_m1 (by omega)
      have hn0 : ¬ nI h < 0 := nI_pos (by omega)
      cases bh : b h with
      | false =>
        refine ⟨r, cr', h0', fun P hp => ⟨hqi, nm_r eX ⟨hci, nm_r eh (br_f hn1 (br_t (mk_b0 hh bh) (hX P hp)))⟩⟩, fun P hp => br_t l66 (br_f hz ⟨hqi, ?_⟩)⟩
        rw [eX]
        exact ⟨hci, nm_r eh (br_f hn0 (br_f (mk_b0' hh bh) (hY hz P hp)))⟩
      | true =>
        by_cases s0 : zse 6 = 0
        · have s0' : zse 6 ≤ 0 := by rw [s0]; exact Int32.le_rfl
          refine ⟨r, cr', h0', fun P hp => ⟨hqi, nm_r eX ⟨hci, nm_r eh (br_f hn1 (br_f (mk_b1' hh bh) (br_t s0 (hX P hp))))⟩⟩, fun P hp => br_t l66 (br_f hz ⟨hqi, ?_⟩)⟩
          rw [eX]
          exact ⟨hci, nm_r eh (br_f hn0 (br_t (mk_b1 hh bh) (br_t s0' (hY hz P hp))))⟩
        · have s0' : ¬ zse 6 ≤ 0 := fun z => s0 (Int32.le_antisymm z hst)
          by_cases y : zse 6 < nI now - zhs (nI cl).toNatClampNeg
          · refine ⟨r, cr', h0', fun P hp => ⟨hqi, nm_r eX ⟨hci, nm_r eh (br_f hn1 (br_f (mk_b1' hh bh) (br_f s0 ⟨hci, br_t y (hX P hp)⟩)))⟩⟩, fun P hp => br_t l66 (br_f hz ⟨hqi, ?_⟩)⟩
            rw [eX]
            exact ⟨hci, nm_r eh (br_f hn0 (br_t (mk_b1 hh bh) (br_f s0' ⟨hqi, hci, br_t y (hY hz P hp)⟩)))⟩
          · refine ⟨nI h, zcr, Or.inr ⟨h, hh, rfl⟩, fun P hp => ⟨hqi, nm_r eX ⟨hci, nm_r eh (br_f hn1 (br_f (mk_b1' hh bh) (br_f s0 ⟨hci, br_f y hp⟩)))⟩⟩, fun P hp => br_t l66 (br_f hz ⟨hqi, ?_⟩)⟩
            rw [eX]
            exact ⟨hci, nm_r eh (br_f hn0 (br_t (mk_b1 hh bh) (br_f s0' ⟨hqi, hci, br_f y hp⟩)))⟩
theorem ax_113 {q c : Nat} (hq : q < 32) (hc : c < 6) (z0 z1 : Int32) (P : Int32 → SX → Prop)
    (hP : P 1 (nI now, nI rc, nI ql, zse, zto, ztu, zwe, zsl, zpa, zbr, zup, zti, zfa, zcr, upd zru c (zru c + 1), zsu, zfi, zrp, zrs, zca, zre, ztk, zho, zhs, upd zst q 1, zcl, zpt, zky, zwo, zra, zcm, zen, upd zat q (nI c), upd zan (nI q).toNatClampNeg (zan (nI q).toNatClampNeg + 1), upd ztr (nI q).toNatClampNeg (ztr (nI q).toNatClampNeg ||| ((1 : Int32) <<< (nI c &&& 31))), upd zae (nI q).toNatClampNeg (z1 + z0), zal, zqx)) :
    wX_attempt_113 P (nI q) (nI c) z0 z1 (nI q) (nI now) (nI rc) (nI ql) zse zto ztu zwe zsl zpa zbr zup zti zfa zcr zru zsu zfi zrp zrs zca zre ztk zho zhs zst zcl zpt zky zwo zra zcm zen zat zan ztr zae zal zqx := by
  have hqi : vp_in (nI q) 32 := vp_in_nI hq (by decide)
  have hci : vp_in (nI c) 6 := vp_in_nI hc (by decide)
  have eq : (nI q).toNatClampNeg = q := nI_clamp (by omega)
  have ec : (nI c).toNatClampNeg = c := nI_clamp (by omega)
  have es : upd zst (nI q).toNatClampNeg 1 = upd zst q 1 := by rw [eq]
  have ea : upd zat (nI q).toNatClampNeg (nI c) = upd zat q (nI c) := by rw [eq]
  have er : upd zru (nI c).toNatClampNeg (zru (nI c).toNatClampNeg + 1) = upd zru c (zru c + 1) := by rw [ec]
  exact ⟨hqi, nm_e ⟨hqi, nm_r es ⟨hqi, nm_r ea ⟨hqi, hqi, nm_e ⟨hqi, hqi, nm_e ⟨hci, hci, nm_r er hP⟩⟩⟩⟩⟩⟩
theorem ay_75 {q c : Nat} (hq : q < 32) (z0 z1 : Int32) (P : Int32 → SY → Prop)
    (hP : P 1 (nI now, nI rc, nI nx, nI ql, zwe, zsl, zpa, zti, zfa, zcr, zsu, zsi, zwl, zbr, zup, zrp, zrs, zse, zca, zre, ztk, zho, zhs, zcl, zpt, zky, zwo, zra, upd zsy q 1, upd zat q (nI c), upd zan (nI q).toNatClampNeg (zan (nI q).toNatClampNeg + 1), upd ztr (nI q).toNatClampNeg (ztr (nI q).toNatClampNeg ||| ((1 : Int32) <<< (nI c &&& 31))), zcm, zen, upd zae (nI q).toNatClampNeg (z1 + z0), zal, zqy, zto, ztu, zso)) :
    wY_attempt_75 P (nI q) (nI c) z0 z1 (nI q) (nI now) (nI rc) (nI nx) (nI ql) zwe zsl zpa zti zfa zcr zsu zsi zwl zbr zup zrp zrs zse zca zre ztk zho zhs zcl zpt zky zwo zra zsy zat zan ztr zcm zen zae zal zqy zto ztu zso := by
  have hqi : vp_in (nI q) 32 := vp_in_nI hq (by decide)
  have eq : (nI q).toNatClampNeg = q := nI_clamp (by omega)
  have es : upd zsy (nI q).toNatClampNeg 1 = upd zsy q 1 := by rw [eq]
  have ea : upd zat (nI q).toNatClampNeg (nI c) = upd zat q (nI c) := by rw [eq]
  exact ⟨hqi, nm_e ⟨hqi, nm_r es ⟨hqi, nm_r ea ⟨hqi, hqi, nm_e ⟨hqi, hqi, nm_e hP⟩⟩⟩⟩⟩
end
section
variable (now rc ql nx : Nat) (zae zal zan zat zbr zca zcl zcm zcr zen zfa zfi zho zhs zky zpa zpt zqx zqy zra zre zrp zrs zru zse zsi zsl zso zst zsu zsy zti ztk ztr ztu zup zwe zwl zwo : Nat → Int32) (zto : Nat → Int64)
theorem am_pair (hset : iv_set zse) (hcli : iv_cli zre zho) (hsrv : iv_srv zwe zti) (hrt : iv_rt rc zrs) (hnx : nx < 2 ^ 31) (h0 : ∀ q, nx ≤ q → q < 32 → zsy q = 0) (hru : ∀ s, s < 6 → zru s = nI (rn_cnt zsy zat (nI s) 32))
    {q : Nat} (hq : q < 32) (hcl : ∃ c : Nat, c < 6 ∧ zcl q = nI c) (hky : ∃ k : Nat, k < 256 ∧ zky q = nI k) (hpt : ∃ p : Nat, p < 4096 ∧ zpt q = nI p) :
    ((∀ P : Int32 → SX → Prop, P 0 (nI now, nI rc, nI ql, zse, zto, ztu, zwe, zsl, zpa, zbr, zup, zti, zfa, zcr, zru, zsu, zfi, zrp, zrs, zca, zre, ztk, zho, zhs, zst, zcl, zpt, zky, zwo, zra, zcm, zen, zat, zan, ztr, zae, zal, zqx) → wpX_attempt P (nI now, nI rc, nI ql, zse, zto, ztu, zwe, zsl, zpa, zbr, zup, zti, zfa, zcr, zru, zsu, zfi, zrp, zrs, zca, zre, ztk, zho, zhs, zst, zcl, zpt, zky, zwo, zra, zcm, zen, zat, zan, ztr, zae, zal, zqx) (nI q)) ∧ (∀ P : Int32 → SY → Prop, P 0 (nI now, nI rc, nI nx, nI ql, zwe, zsl, zpa, zti, zfa, zcr, zsu, zsi, zwl, zbr, zup, zrp, zrs, zse, zca, zre, ztk, zho, zhs, zcl, zpt, zky, zwo, zra, zsy, zat, zan, ztr, zcm, zen, zae, zal, zqy, zto, ztu, zso) → wpY_attempt P (nI now, nI rc, nI nx, nI ql, zwe, zsl, zpa, zti, zfa, zcr, zsu, zsi, zwl, zbr, zup, zrp, zrs, zse, zca, zre, ztk, zho, zhs, zcl, zpt, zky, zwo, zra, zsy, zat, zan, ztr, zcm, zen, zae, zal, zqy, zto, ztu, zso) (nI q))) ∨
    ∃ (s : Nat) (cr' al' ae' an' tr' : Nat → Int32), s < 6 ∧
      (∀ P : Int32 → SX → Prop, P 1 (nI now, nI rc, nI ql, zse, zto, ztu, zwe, zsl, zpa, zbr, zup, zti, zfa, cr', upd zru s (zru s + 1), zsu, zfi, zrp, zrs, zca, zre, ztk, zho, zhs, upd zst q 1, zcl, zpt, zky, zwo, zra, zcm, zen, upd zat q (nI s), an', tr', ae', al', zqx) → wpX_attempt P (nI now, nI rc, nI ql, zse, zto, ztu, zwe, zsl, zpa, zbr, zup, zti, zfa, zcr, zru, zsu, zfi, zrp, zrs, zca, zre, ztk, zho, zhs, zst, zcl, zpt, zky, zwo, zra, zcm, zen, zat, zan, ztr, zae, zal, zqx) (nI q)) ∧
      (∀ P : Int32 → SY → Prop, P 1 (nI now, nI rc, nI nx, nI ql, zwe, zsl, zpa, zti, zfa, cr', zsu, zsi, zwl, zbr, zup, zrp, zrs, zse, zca, zre, ztk, zho, zhs, zcl, zpt, zky, zwo, zra, upd zsy q 1, upd zat q (nI s), an', tr', zcm, zen, ae', al', zqy, zto, ztu, zso) → wpY_attempt P (nI now, nI rc, nI nx, nI ql, zwe, zsl, zpa, zti, zfa, zcr, zsu, zsi, zwl, zbr, zup, zrp, zrs, zse, zca, zre, ztk, zho, zhs, zcl, zpt, zky, zwo, zra, zsy, zat, zan, ztr, zcm, zen, zae, zal, zqy, zto, ztu, zso) (nI q)) := by
  have hr12 : rc ≤ 12 := hrt.1
  obtain ⟨cl, hc6, hcl⟩ := hcl
  obtain ⟨key, hk, hky⟩ := hky
  obtain ⟨p, hp, hpt⟩ := hpt
  have hqi : vp_in (nI q) 32 := vp_in_nI hq (by decide)
  have eq : (nI q).toNatClampNeg = q := nI_clamp (by omega)
  have ept : zpt (nI q).toNatClampNeg = nI p := by rw [eq]; exact hpt
  have hR : ∀ s, s < 6 → ∀ P : Int32 → Prop, P (zru s) → wpY_running P (nI now, nI rc, nI nx, nI ql, zwe, zsl, zpa, zti, zfa, zcr, zsu, zsi, zwl, zbr, zup, zrp, zrs, zse, zca, zre, ztk, zho, zhs, zcl, zpt, zky, zwo, zra, zsy, zat, zan, ztr, zcm, zen, zae, zal, zqy, zto, ztu, zso) (nI s) := fun s hs P hP => rn_run now rc ql nx zae zal zan zat zbr zca zcl zcm zcr zen zfa zho zhs zky zpa zpt zqy zra zre zrp zrs zse zsi zsl zso zsu zsy zti ztk ztr ztu zup zwe zwl zwo zto hnx h0 (nI s) P (by rw [← hru s hs]; exact hP)
  have l66 : (6 : Int32) ≤ nI 6 := by decide
  obtain ⟨r, sv, hrs, hX, hY⟩ := sv_pair now rc ql nx zae zal zan zat zbr zca zcl zcm zcr zen zfa zfi zho zhs zky zpa zpt zqx zqy zra zre zrp zrs zru zse zsi zsl zso zst zsu zsy zti ztk ztr ztu zup zwe zwl zwo zto hrt.1 hp
  rcases hrs with ⟨rfl, rfl⟩ | ⟨i, hi, rfl, rfl⟩
  · refine Or.inl ⟨fun P hP => ?_, fun P hP => ?_⟩
    · refine ⟨hqi, ?_⟩
      rw [ept]
      exact hX _ (br_t rfl hP)
    · have hS : ∀ P : Int32 → Prop, P (-1) → wpY_serversOf P (nI now, nI rc, nI nx, nI ql, zwe, zsl, zpa, zti, zfa, zcr, zsu, zsi, zwl, zbr, zup, zrp, zrs, zse, zca, zre, ztk, zho, zhs, zcl, zpt, zky, zwo, zra, zsy, zat, zan, ztr, zcm, zen, zae, zal, zqy, zto, ztu, zso) (zpt q) := by rw [hpt]; exact hY
      have hz : mk_m (fun _ => false) 6 = 0 := by decide
      exact ⟨7, cy_loop now rc ql nx zae zal zan zat zbr zca zcl zcm zcr zen zfa zho zhs zky zpa zpt zqy zra zre zrp zrs zse zsi zsl zso zsu zsy zti ztk ztr ztu zup zwe zwl zwo zto (fun _ => false) (fun _ _ z => absurd z Bool.false_ne_true) (fun s hs _ P hP => ry_m now rc ql nx zae zal zan zat zbr zca zcl zcm zcr zen zfa zho zhs zky zpa zpt zqy zra zre zrp zrs zru zse zsi zsl zso zsu zsy zti ztk ztr ztu zup zwe zwl zwo zto hs hq hS (hR s hs) P hP) _ (br_t l66 (br_t hz (br_f (by decide) hP))) 6 0 7 rfl (by omega)⟩
  · have hsv : 0 ≤ zrs i := hrt.2 i hi
    have hS : ∀ P : Int32 → Prop, P (zrs i) → wpY_serversOf P (nI now, nI rc, nI nx, nI ql, zwe, zsl, zpa, zti, zfa, zcr, zsu, zsi, zwl, zbr, zup, zrp, zrs, zse, zca, zre, ztk, zho, zhs, zcl, zpt, zky, zwo, zra, zsy, zat, zan, ztr, zcm, zen, zae, zal, zqy, zto, ztu, zso) (zpt q) := by rw [hpt]; exact hY
    have h12 : vp_in (nI i) 12 := vp_in_nI (by have := hrt.1; omega) (by decide)
    have ei : (nI i).toNatClampNeg = i := nI_clamp (by have := hrt.1; omega)
    have hw : ∃ w : Nat → Nat, ∀ s, s < 6 → w s < 10 ∧ zwe s = nI (w s) := ⟨fun s => (zwe s).toNatClampNeg, fun s hs => by
      obtain ⟨w, hw, e⟩ := (hsrv s hs).1
      dsimp only
      rw [e, nI_clamp (by omega)]
      exact ⟨hw, rfl⟩⟩
    obtain ⟨w, hw⟩ := hw
    obtain ⟨r, cr', hr, cX, cY⟩ := ch_pair now rc ql nx zae zal zan zat zbr zca zcl zcm zcr zen zfa zfi zho zhs zky zpa zpt zqx zqy zra zre zrp zrs zru zse zsi zsl zso zst zsu zsy zti ztk ztr ztu zup zwe zwl zwo zto (rd_b now zwe zup zsl zti zru (zrs i) (ztr q)) w hw hR hq hk hky hc6 hcl (hcli cl hc6).2 hset.2.1
    have yA : ∀ P : Int32 → SY → Prop, P r (nI now, nI rc, nI nx, nI ql, zwe, zsl, zpa, zti, zfa, cr', zsu, zsi, zwl, zbr, zup, zrp, zrs, zse, zca, zre, ztk, zho, zhs, zcl, zpt, zky, zwo, zra, zsy, zat, zan, ztr, zcm, zen, zae, zal, zqy, zto, ztu, zso) → wpY_choose P (nI now, nI rc, nI nx, nI ql, zwe, zsl, zpa, zti, zfa, zcr, zsu, zsi, zwl, zbr, zup, zrp, zrs, zse, zca, zre, ztk, zho, zhs, zcl, zpt, zky, zwo, zra, zsy, zat, zan, ztr, zcm, zen, zae, zal, zqy, zto, ztu, zso) (nI q) := fun P hP =>
      ⟨7, cy_loop now rc ql nx zae zal zan zat zbr zca zcl zcm zcr zen zfa zho zhs zky zpa zpt zqy zra zre zrp zrs zse zsi zsl zso zsu zsy zti ztk ztr ztu zup zwe zwl zwo zto (rd_b now zwe zup zsl zti zru (zrs i) (ztr q))
        (fun s hs hb P hP => ry_1 now rc ql nx zae zal zan zat zbr zca zcl zcm zcr zen zfa zho zhs zky zpa zpt zqy zra zre zrp zrs zru zse zsi zsl zso zsu zsy zti ztk ztr ztu zup zwe zwl zwo zto hs hq hsv (hsrv s hs).2 hS (hR s hs) (@of_decide_eq_true _ (Classical.propDecidable _) hb) P hP)
        (fun s hs hb P hP => ry_0 now rc ql nx zae zal zan zat zbr zca zcl zcm zcr zen zfa zho zhs zky zpa zpt zqy zra zre zrp zrs zru zse zsi zsl zso zsu zsy zti ztk ztr ztu zup zwe zwl zwo zto hs hq hsv (hsrv s hs).2 hS (hR s hs) (@of_decide_eq_false _ (Classical.propDecidable _) hb) P hP) _ (cY P hP) 6 0 7 rfl (by omega)⟩
    have xA : ∀ (Q : Int32 → SX → Prop), Q r (nI now, nI rc, nI ql, zse, zto, ztu, zwe, zsl, zpa, zbr, zup, zti, zfa, cr', zru, zsu, zfi, zrp, zrs, zca, zre, ztk, zho, zhs, zst, zcl, zpt, zky, zwo, zra, zcm, zen, zat, zan, ztr, zae, zal, zqx) → wpX_readyAmong (fun m => wpX_choose Q (nI now, nI rc, nI ql, zse, zto, ztu, zwe, zsl, zpa, zbr, zup, zti, zfa, zcr, zru, zsu, zfi, zrp, zrs, zca, zre, ztk, zho, zhs, zst, zcl, zpt, zky, zwo, zra, zcm, zen, zat, zan, ztr, zae, zal, zqx) m (nI q)) (nI now, nI rc, nI ql, zse, zto, ztu, zwe, zsl, zpa, zbr, zup, zti, zfa, zcr, zru, zsu, zfi, zrp, zrs, zca, zre, ztk, zho, zhs, zst, zcl, zpt, zky, zwo, zra, zcm, zen, zat, zan, ztr, zae, zal, zqx) (zrs i) (nI q) := fun Q hQ => ra_run now rc ql zae zal zan zat zbr zca zcl zcm zcr zen zfa zfi zho zhs zky zpa zpt zqx zra zre zrp zrs zru zse zsl zst zsu zti ztk ztr ztu zup zwe zwo zto hq (zrs i) _ (cX Q hQ)
    rcases hr with ⟨rfl, rfl⟩ | ⟨c, hc, rfl⟩
    · refine Or.inl ⟨fun P hP => ?_, fun P hP => yA _ (br_f (by decide) hP)⟩
      refine ⟨hqi, ?_⟩
      rw [ept]
      refine hX _ (br_f (ms_nI_m1 (by omega)) ⟨h12, ?_⟩)
      rw [ei]
      exact xA _ (br_t rfl hP)
    · have hci : vp_in (nI c) 6 := vp_in_nI hc (by decide)
      have hc1 : ¬ nI c = -1 := ms_nI_m1 (by omega)
      have hc0 : 0 ≤ nI c := nI_pos' (by omega)
      by_cases z : zwo (nI q).toNatClampNeg * zpa (nI c).toNatClampNeg ≤ zse 1
      · refine Or.inr ⟨c, cr', _, _, _, _, hc, fun P hP => ?_, fun P hP => yA _ (br_t hc0 ⟨hqi, hci, nm_e (br_t z ⟨hqi, nm_e ⟨hqi, br_t (pk_us.trans ms_nb0) (ay_75 now rc ql nx zae (upd zal (nI q).toNatClampNeg (vp_nar .boolean 0)) zan zat zbr zca zcl zcm cr' zen zfa zho zhs zky zpa zpt zqy zra zre zrp zrs zse zsi zsl zso zsu zsy zti ztk ztr ztu zup zwe zwl zwo zto hq _ _ P hP)⟩⟩)⟩)⟩
        refine ⟨hqi, ?_⟩
        rw [ept]
        refine hX _ (br_f (ms_nI_m1 (by omega)) ⟨h12, ?_⟩)
        rw [ei]
        exact xA _ (br_f hc1 ⟨hqi, hci, nm_e (br_t z ⟨hqi, nm_e ⟨hqi, br_t (pk_us.trans ms_nb0) (ax_113 now rc ql zae (upd zal (nI q).toNatClampNeg (vp_nar .boolean 0)) zan zat zbr zca zcl zcm cr' zen zfa zfi zho zhs zky zpa zpt zqx zra zre zrp zrs zru zse zsl zst zsu zti ztk ztr ztu zup zwe zwo zto hq hc _ _ P hP)⟩⟩)⟩)
      · have n1 : ¬ (upd zal (nI q).toNatClampNeg (vp_nar .boolean 1)) (nI q).toNatClampNeg = 0 := by rw [pk_us, ms_nb1]; decide
        refine Or.inr ⟨c, cr', _, _, _, _, hc, fun P hP => ?_, fun P hP => yA _ (br_t hc0 ⟨hqi, hci, nm_e (br_f z ⟨hqi, nm_e ⟨hqi, br_f n1 (ay_75 now rc ql nx zae (upd zal (nI q).toNatClampNeg (vp_nar .boolean 1)) zan zat zbr zca zcl zcm cr' zen zfa zho zhs zky zpa zpt zqy zra zre zrp zrs zse zsi zsl zso zsu zsy zti ztk ztr ztu zup zwe zwl zwo zto hq _ _ P hP)⟩⟩)⟩)⟩
        refine ⟨hqi, ?_⟩
        rw [ept]
        refine hX _ (br_f (ms_nI_m1 (by omega)) ⟨h12, ?_⟩)
        rw [ei]
        exact xA _ (br_f hc1 ⟨hqi, hci, nm_e (br_f z ⟨hqi, nm_e ⟨hqi, br_f n1 (ax_113 now rc ql zae (upd zal (nI q).toNatClampNeg (vp_nar .boolean 1)) zan zat zbr zca zcl zcm cr' zen zfa zfi zho zhs zky zpa zpt zqx zra zre zrp zrs zru zse zsl zst zsu zti ztk ztr ztu zup zwe zwo zto hq hc _ _ P hP)⟩⟩)⟩)
end
