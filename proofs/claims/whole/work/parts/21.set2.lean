/-! damage, limit, set -/
theorem pu_damage {k : Nat} {u : SX} {v : SY} (I : i_Rel k u v) (v1 v2 : Int32) : ∃ r u' v', i_Rel (k + 6) u' v' ∧ (∀ P : Int32 → SX → Prop, P r u' → wpX_damage P u v1 v2) ∧ (∀ P : Int32 → SY → Prop, P r v' → wpY_damage P v v1 v2) := by
  have I' := i_up I
  obtain ⟨now, nx, dn, w, h1, h2, h3, hR⟩ := I
  obtain ⟨rc, qn, zae, zal, zan, zat, zbr, zca, zcl, zcm, zcr, zen, zfa, zfi, zho, zhs, zky, zpa, zpt, zqx, zqy, zra, zre, zrp, zrs, zru, zse, zsi, zsl, zso, zst, zsu, zti, ztk, ztr, ztu, zup, zwe, zwl, zwo, zto, rfl, rfl, hset, hcli, hsrv, hrt, hfnd, hreq, hrun, hqs, htot⟩ := hR
  rcases px_6 v1 with h | ⟨s, hs, rfl⟩
  · refine ⟨0, _, _, I', fun P hP => ?_, fun P hP => ?_⟩
    · unfold wpX_damage; exact rd_so h (br_t rfl hP)
    · unfold wpY_damage; exact rd_yo6 h (br_t rfl hP)
  · have hsi : vp_in (nI s) 6 := vp_in_nI hs (by decide)
    have hR' : md_R now nx dn now 0 0 w (nI now, nI rc, nI w, zse, zto, ztu, zwe, zsl, zpa, upd zbr (nI s).toNatClampNeg (vp_nar .boolean v2), zup, zti, zfa, zcr, zru, zsu, zfi, zrp, zrs, zca, zre, ztk, zho, zhs, zst, zcl, zpt, zky, zwo, zra, zcm, zen, zat, zan, ztr, zae, zal, zqx) (nI now, nI rc, nI nx, nI w, zwe, zsl, zpa, zti, zfa, zcr, zsu, zsi, zwl, upd zbr (nI s).toNatClampNeg (vp_nar .boolean v2), zup, zrp, zrs, zse, zca, zre, ztk, zho, zhs, zcl, zpt, zky, zwo, zra, zst, zat, zan, ztr, zcm, zen, zae, zal, zqy, zto, ztu, zso) := md_mk hset hcli hsrv hrt hfnd hreq hrun hqs htot
    refine ⟨1, _, _, ⟨now, nx, dn, w, by omega, by omega, h3, hR'⟩, fun P hP => ?_, fun P hP => ?_⟩
    · unfold wpX_damage; exact rd_s1 hs (br_f rd_1n0 ⟨hsi, nm_e hP⟩)
    · unfold wpY_damage; exact rd_y6 hs (br_f rd_1n0 ⟨hsi, nm_e hP⟩)
theorem i_vc_damage {k : Nat} {u : SX} {v : SY} (I : i_Rel k u v) (hk : k + 6 ≤ 3072) (v1 : Int32) (v2 : Int32) : wpX_damage (fun r u' => wpY_damage (fun r' v' => r' = r ∧ i_Rel (k + 6) u' v') v v1 (lw_bz v2)) u v1 (lw_bz v2) := by
  obtain ⟨r, u', v', hI, hX, hY⟩ := pu_damage I v1 (lw_bz v2)
  exact hX _ (hY _ ⟨rfl, hI⟩)
theorem pu_limit {k : Nat} {u : SX} {v : SY} (I : i_Rel k u v) (v1 v2 v3 : Int32) : ∃ r u' v', i_Rel (k + 6) u' v' ∧ (∀ P : Int32 → SX → Prop, P r u' → wpX_limit P u v1 v2 v3) ∧ (∀ P : Int32 → SY → Prop, P r v' → wpY_limit P v v1 v2 v3) := by
  have I' := i_up I
  obtain ⟨now, nx, dn, w, h1, h2, h3, hR⟩ := I
  obtain ⟨rc, qn, zae, zal, zan, zat, zbr, zca, zcl, zcm, zcr, zen, zfa, zfi, zho, zhs, zky, zpa, zpt, zqx, zqy, zra, zre, zrp, zrs, zru, zse, zsi, zsl, zso, zst, zsu, zti, ztk, ztr, ztu, zup, zwe, zwl, zwo, zto, rfl, rfl, hset, hcli, hsrv, hrt, hfnd, hreq, hrun, hqs, htot⟩ := hR
  rcases px_6 v1 with h | ⟨s, hs, rfl⟩
  · refine ⟨0, _, _, I', fun P hP => ?_, fun P hP => ?_⟩
    · unfold wpX_limit; exact rd_co h (br_t rfl hP)
    · unfold wpY_limit; exact rd_yo6 h (br_t rfl hP)
  by_cases a0 : v2 < 0
  · refine ⟨0, _, _, I', fun P hP => ?_, fun P hP => ?_⟩
    · unfold wpX_limit; exact rd_c1 hs (br_f rd_1n0 (br_t a0 hP))
    · unfold wpY_limit; exact rd_y6 hs (br_f rd_1n0 (rd_y0 (Or.inl a0) (br_t rfl hP)))
  by_cases a1 : 20 < v2
  · refine ⟨0, _, _, I', fun P hP => ?_, fun P hP => ?_⟩
    · unfold wpX_limit; exact rd_c1 hs (br_f rd_1n0 (br_f a0 (br_t a1 hP)))
    · unfold wpY_limit; exact rd_y6 hs (br_f rd_1n0 (rd_y0 (Or.inr a1) (br_t rfl hP)))
  by_cases b0 : v3 < 1
  · refine ⟨0, _, _, I', fun P hP => ?_, fun P hP => ?_⟩
    · unfold wpX_limit; exact rd_c1 hs (br_f rd_1n0 (br_f a0 (br_f a1 (br_t b0 hP))))
    · unfold wpY_limit; exact rd_y6 hs (br_f rd_1n0 (rd_y1 a0 a1 (br_f rd_1n0 (rd_y0 (Or.inl b0) (br_t rfl hP)))))
  by_cases b1 : v3 ≤ 100
  · have hsi : vp_in (nI s) 6 := vp_in_nI hs (by decide)
    have es : (nI s).toNatClampNeg = s := nI_clamp (by omega)
    have n0 : ¬ v3 = 0 := fun e => b0 (by rw [e]; decide)
    have hR' : md_R now nx dn now 0 0 w (nI now, nI rc, nI w, zse, zto, ztu, zwe, zsl, zpa, zbr, zup, zti, zfa, zcr, zru, zsu, zfi, zrp, zrs, upd zca s v2, upd zre s v3, upd ztk s v2, zho, zhs, zst, zcl, zpt, zky, zwo, zra, zcm, zen, zat, zan, ztr, zae, zal, zqx) (nI now, nI rc, nI nx, nI w, zwe, zsl, zpa, zti, zfa, zcr, zsu, zsi, zwl, zbr, zup, zrp, zrs, zse, upd zca s v2, upd zre s v3, upd ztk s v2, zho, zhs, zcl, zpt, zky, zwo, zra, zst, zat, zan, ztr, zcm, zen, zae, zal, zqy, zto, ztu, zso) :=
      md_mk hset (fun j hj => by
        by_cases e : j = s
        · rw [e, pk_us]; exact ⟨n0, (hcli s hs).2⟩
        · rw [pk_un e]; exact hcli j hj) hsrv hrt hfnd hreq hrun hqs htot
    refine ⟨1, _, _, ⟨now, nx, dn, w, by omega, by omega, h3, hR'⟩, fun P hP => ?_, fun P hP => ?_⟩
    · unfold wpX_limit
      rw [es]
      exact rd_c1 hs (br_f rd_1n0 (br_f a0 (br_f a1 (br_f b0 (br_t b1 ⟨hsi, nm_e ⟨hsi, nm_e ⟨hsi, nm_e hP⟩⟩⟩)))))
    · unfold wpY_limit
      rw [es]
      exact rd_y6 hs (br_f rd_1n0 (rd_y1 a0 a1 (br_f rd_1n0 (rd_y1 b0 (Int32.not_lt.mpr b1) (br_f rd_1n0 ⟨hsi, nm_e ⟨hsi, nm_e ⟨hsi, nm_e hP⟩⟩⟩)))))
  · refine ⟨0, _, _, I', fun P hP => ?_, fun P hP => ?_⟩
    · unfold wpX_limit; exact rd_c1 hs (br_f rd_1n0 (br_f a0 (br_f a1 (br_f b0 (br_f b1 hP)))))
    · unfold wpY_limit; exact rd_y6 hs (br_f rd_1n0 (rd_y1 a0 a1 (br_f rd_1n0 (rd_y0 (Or.inr (Int32.not_le.mp b1)) (br_t rfl hP)))))
theorem i_vc_limit {k : Nat} {u : SX} {v : SY} (I : i_Rel k u v) (hk : k + 6 ≤ 3072) (v1 : Int32) (v2 : Int32) (v3 : Int32) : wpX_limit (fun r u' => wpY_limit (fun r' v' => r' = r ∧ i_Rel (k + 6) u' v') v v1 v2 v3) u v1 v2 v3 := by
  obtain ⟨r, u', v', hI, hX, hY⟩ := pu_limit I v1 v2 v3
  exact hX _ (hY _ ⟨rfl, hI⟩)
def st_lo (j : Nat) : Int32 := match j with
  | 0 => 0
  | 1 => 1
  | 2 => 0
  | 3 => 1
  | 4 => 1
  | 5 => 1
  | _ => 0
def st_hi (j : Nat) : Int32 := match j with
  | 0 => 2
  | 1 => 1000
  | 2 => 3
  | 3 => 1000
  | 4 => 100
  | 5 => 1000
  | _ => 1000
theorem st_X {j : Nat} (hj : j < 7) (P : Int32 → Int32 → Prop) (hP : P (st_lo j) (st_hi j)) : wpX_leastValue (fun a => wpX_greatestValue (fun b => P a b) (nI j)) (nI j) := by
  match j, hj with
  | 0, _ => exact br_t rfl (br_f (by decide) (br_f (by decide) (br_t rfl hP)))
  | 1, _ => exact br_f (by decide) (br_f (by decide) (br_f (by decide) (br_f (by decide) (br_f (by decide) (br_f (by decide) (br_t rfl hP))))))
  | 2, _ => exact br_f (by decide) (br_t rfl (br_f (by decide) (br_f (by decide) (br_f (by decide) (br_f (by decide) (br_t rfl hP))))))
  | 3, _ => exact br_f (by decide) (br_f (by decide) (br_f (by decide) (br_f (by decide) (br_f (by decide) (br_f (by decide) (br_f (by decide) (br_f (by decide) (br_t rfl hP))))))))
  | 4, _ => exact br_f (by decide) (br_f (by decide) (br_f (by decide) (br_f (by decide) (br_f (by decide) (br_f (by decide) (br_f (by decide) (br_f (by decide) (br_f (by decide) (br_t rfl hP)))))))))
  | 5, _ => exact br_f (by decide) (br_f (by decide) (br_f (by decide) (br_f (by decide) (br_t (by decide) hP))))
  | 6, _ => exact br_f (by decide) (br_f (by decide) (br_t rfl (br_f (by decide) (br_t (by decide) hP))))
section
variable (now rc ql nx : Nat) (zae zal zan zat zbr zca zcl zcm zcr zen zfa zfi zho zhs zky zpa zpt zqx zqy zra zre zrp zrs zru zse zsi zsl zso zst zsu zsy zti ztk ztr ztu zup zwe zwl zwo : Nat → Int32) (zto : Nat → Int64)
theorem st_Y {j : Nat} (hj : j < 7) (v2 : Int32) (P : Int32 → SY → Prop) (hP : wpY_in (fun r => wY_set_67 P (nI j) v2 r (nI now) (nI rc) (nI nx) (nI ql) zwe zsl zpa zti zfa zcr zsu zsi zwl zbr zup zrp zrs zse zca zre ztk zho zhs zcl zpt zky zwo zra zsy zat zan ztr zcm zen zae zal zqy zto ztu zso) v2 (st_lo j) (st_hi j)) : wpY_set P (nI now, nI rc, nI nx, nI ql, zwe, zsl, zpa, zti, zfa, zcr, zsu, zsi, zwl, zbr, zup, zrp, zrs, zse, zca, zre, ztk, zho, zhs, zcl, zpt, zky, zwo, zra, zsy, zat, zan, ztr, zcm, zen, zae, zal, zqy, zto, ztu, zso) (nI j) v2 := by
  match j, hj with
  | 0, _ => exact br_t rfl hP
  | 1, _ => exact br_f (by decide) (br_f (by decide) (br_f (by decide) (br_f (by decide) (hP))))
  | 2, _ => exact br_f (by decide) (br_t rfl hP)
  | 3, _ => exact br_f (by decide) (br_f (by decide) (br_f (by decide) (br_f (by decide) (hP))))
  | 4, _ => exact br_f (by decide) (br_f (by decide) (br_t rfl hP))
  | 5, _ => exact br_f (by decide) (br_f (by decide) (br_f (by decide) (br_f (by decide) (hP))))
  | 6, _ => exact br_f (by decide) (br_f (by decide) (br_f (by decide) (br_t rfl hP)))
end
theorem st_inv {se : Nat → Int32} {j : Nat} {v : Int32} (hj : j < 7) (h : iv_set se) (h1 : ¬ v < st_lo j) (h2 : v ≤ st_hi j) : iv_set (upd se j v) := by
  obtain ⟨a, b, r, hr, c⟩ := h
  match j, hj with
  | 0, _ => exact ⟨by rw [pk_un (by decide)]; exact a, by rw [pk_un (by decide)]; exact b, r, hr, by rw [pk_un (by decide)]; exact c⟩
  | 1, _ => exact ⟨by rw [pk_un (by decide)]; exact a, by rw [pk_un (by decide)]; exact b, r, hr, by rw [pk_un (by decide)]; exact c⟩
  | 2, _ => exact ⟨by rw [pk_un (by decide)]; exact a, by rw [pk_un (by decide)]; exact b, r, hr, by rw [pk_un (by decide)]; exact c⟩
  | 3, _ =>
    refine ⟨by rw [pk_un (by decide)]; exact a, by rw [pk_un (by decide)]; exact b, ?_⟩
    obtain ⟨x, hx, e⟩ := nI_of2 (x := v) (M := 1000) (n := 1000) (by decide) (fun z => h1 (Int32.lt_trans z (by decide))) h2
    exact ⟨x, hx, by rw [pk_us]; exact e⟩
  | 4, _ => exact ⟨by rw [pk_us]; exact fun e => h1 (by rw [e]; decide), by rw [pk_un (by decide)]; exact b, r, hr, by rw [pk_un (by decide)]; exact c⟩
  | 5, _ => exact ⟨by rw [pk_un (by decide)]; exact a, by rw [pk_un (by decide)]; exact b, r, hr, by rw [pk_un (by decide)]; exact c⟩
  | 6, _ => exact ⟨by rw [pk_un (by decide)]; exact a, by rw [pk_us]; exact Int32.not_lt.mp h1, r, hr, by rw [pk_un (by decide)]; exact c⟩
theorem pu_set {k : Nat} {u : SX} {v : SY} (I : i_Rel k u v) (v1 v2 : Int32) : ∃ r u' v', i_Rel (k + 6) u' v' ∧ (∀ P : Int32 → SX → Prop, P r u' → wpX_set P u v1 v2) ∧ (∀ P : Int32 → SY → Prop, P r v' → wpY_set P v v1 v2) := by
  have I' := i_up I
  obtain ⟨now, nx, dn, w, h1, h2, h3, hR⟩ := I
  obtain ⟨rc, qn, zae, zal, zan, zat, zbr, zca, zcl, zcm, zcr, zen, zfa, zfi, zho, zhs, zky, zpa, zpt, zqx, zqy, zra, zre, zrp, zrs, zru, zse, zsi, zsl, zso, zst, zsu, zti, ztk, ztr, ztu, zup, zwe, zwl, zwo, zto, rfl, rfl, hset, hcli, hsrv, hrt, hfnd, hreq, hrun, hqs, htot⟩ := hR
  have bad : ∀ P : Int32 → SY → Prop, P 0 (nI now, nI rc, nI nx, nI w, zwe, zsl, zpa, zti, zfa, zcr, zsu, zsi, zwl, zbr, zup, zrp, zrs, zse, zca, zre, ztk, zho, zhs, zcl, zpt, zky, zwo, zra, zst, zat, zan, ztr, zcm, zen, zae, zal, zqy, zto, ztu, zso) → (v1 < 0 ∨ 6 < v1) → wpY_set P (nI now, nI rc, nI nx, nI w, zwe, zsl, zpa, zti, zfa, zcr, zsu, zsi, zwl, zbr, zup, zrp, zrs, zse, zca, zre, ztk, zho, zhs, zcl, zpt, zky, zwo, zra, zst, zat, zan, ztr, zcm, zen, zae, zal, zqy, zto, ztu, zso) v1 v2 := by
    intro P hP hb
    have h67 : ∀ r, wY_set_67 P v1 v2 r (nI now) (nI rc) (nI nx) (nI w) zwe zsl zpa zti zfa zcr zsu zsi zwl zbr zup zrp zrs zse zca zre ztk zho zhs zcl zpt zky zwo zra zst zat zan ztr zcm zen zae zal zqy zto ztu zso := fun r => by unfold wY_set_67; exact rd_y0 hb (br_t rfl hP)
    have any : ∀ lo hi, wpY_in (fun r => wY_set_67 P v1 v2 r (nI now) (nI rc) (nI nx) (nI w) zwe zsl zpa zti zfa zcr zsu zsi zwl zbr zup zrp zrs zse zca zre ztk zho zhs zcl zpt zky zwo zra zst zat zan ztr zcm zen zae zal zqy zto ztu zso) v2 lo hi := fun lo hi => br_c (fun _ => h67 0) (fun _ => br_c (fun _ => h67 0) (fun _ => h67 1))
    exact br_c (fun _ => any _ _) (fun _ => br_c (fun _ => any _ _) (fun _ => br_c (fun _ => any _ _) (fun _ => br_c (fun _ => any _ _) (fun _ => any _ _))))
  rcases pk_ix v1 (n := 7) (by decide) with h | h | ⟨j, hj, rfl⟩
  · exact ⟨0, _, _, I', fun P hP => br_t h hP, fun P hP => bad P hP (Or.inl h)⟩
  · obtain ⟨ha, hb⟩ := px_hi (n := 6) (by decide) h
    exact ⟨0, _, _, I', fun P hP => br_f hb (br_f (Int32.not_lt.mpr h) hP), fun P hP => bad P hP (Or.inr ha)⟩
  have j0 : ¬ nI j < 0 := nI_pos (by omega)
  have j7 : nI j < 7 := nI_lt (b := 7) hj (by decide)
  have hji : vp_in (nI j) 7 := vp_in_nI hj (by decide)
  have ej : (nI j).toNatClampNeg = j := nI_clamp (by omega)
  have jy : ∀ (P : Int32 → Prop), P 1 → wpY_in P (nI j) 0 6 := fun P hP => rd_yn (a := 0) (b := 6) (by omega) (by omega) (by decide) hP
  by_cases a : v2 < st_lo j
  · refine ⟨0, _, _, I', fun P hP => br_f j0 (br_t j7 (st_X hj _ (br_t a hP))), fun P hP => st_Y now rc w nx zae zal zan zat zbr zca zcl zcm zcr zen zfa zho zhs zky zpa zpt zqy zra zre zrp zrs zse zsi zsl zso zsu zst zti ztk ztr ztu zup zwe zwl zwo zto hj v2 P (rd_y0 (Or.inl a) ?_)⟩
    unfold wY_set_67
    exact jy _ (br_f rd_1n0 (br_t rfl hP))
  by_cases b : v2 ≤ st_hi j
  · have hR' : md_R now nx dn now 0 0 w (nI now, nI rc, nI w, upd zse j v2, zto, ztu, zwe, zsl, zpa, zbr, zup, zti, zfa, zcr, zru, zsu, zfi, zrp, zrs, zca, zre, ztk, zho, zhs, zst, zcl, zpt, zky, zwo, zra, zcm, zen, zat, zan, ztr, zae, zal, zqx) (nI now, nI rc, nI nx, nI w, zwe, zsl, zpa, zti, zfa, zcr, zsu, zsi, zwl, zbr, zup, zrp, zrs, upd zse j v2, zca, zre, ztk, zho, zhs, zcl, zpt, zky, zwo, zra, zst, zat, zan, ztr, zcm, zen, zae, zal, zqy, zto, ztu, zso) := md_mk (st_inv hj hset a b) hcli hsrv hrt hfnd hreq hrun hqs htot
    have e : upd zse (nI j).toNatClampNeg v2 = upd zse j v2 := by rw [ej]
    refine ⟨1, _, _, ⟨now, nx, dn, w, by omega, by omega, h3, hR'⟩, fun P hP => br_f j0 (br_t j7 (st_X hj _ (br_f a (br_t b ⟨hji, nm_r e hP⟩)))), fun P hP => st_Y now rc w nx zae zal zan zat zbr zca zcl zcm zcr zen zfa zho zhs zky zpa zpt zqy zra zre zrp zrs zse zsi zsl zso zsu zst zti ztk ztr ztu zup zwe zwl zwo zto hj v2 P (rd_y1 a (Int32.not_lt.mpr b) ?_)⟩
    unfold wY_set_67
    exact jy _ (br_f rd_1n0 (br_f rd_1n0 ⟨hji, nm_r e hP⟩))
  · refine ⟨0, _, _, I', fun P hP => br_f j0 (br_t j7 (st_X hj _ (br_f a (br_f b hP)))), fun P hP => st_Y now rc w nx zae zal zan zat zbr zca zcl zcm zcr zen zfa zho zhs zky zpa zpt zqy zra zre zrp zrs zse zsi zsl zso zsu zst zti ztk ztr ztu zup zwe zwl zwo zto hj v2 P (rd_y0 (Or.inr (Int32.not_le.mp b)) ?_)⟩
    unfold wY_set_67
    exact jy _ (br_f rd_1n0 (br_t rfl hP))
theorem i_vc_set {k : Nat} {u : SX} {v : SY} (I : i_Rel k u v) (hk : k + 6 ≤ 3072) (v1 : Int32) (v2 : Int32) : wpX_set (fun r u' => wpY_set (fun r' v' => r' = r ∧ i_Rel (k + 6) u' v') v v1 v2) u v1 v2 := by
  obtain ⟨r, u', v', hI, hX, hY⟩ := pu_set I v1 v2
  exact hX _ (hY _ ⟨rfl, hI⟩)
