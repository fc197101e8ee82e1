/-! server, route, unroute, damage, set, limit -/
theorem px_6 (v : Int32) : (v < 0 ∨ nI 6 ≤ v) ∨ ∃ c : Nat, c < 6 ∧ v = nI c := by
  rcases pk_ix v (n := 6) (by decide) with h | h | h
  · exact Or.inl (Or.inl h)
  · exact Or.inl (Or.inr h)
  · exact Or.inr h
theorem pu_server {k : Nat} {u : SX} {v : SY} (I : i_Rel k u v) (v1 v2 v3 v4 : Int32) : ∃ r u' v', i_Rel (k + 6) u' v' ∧ (∀ P : Int32 → SX → Prop, P r u' → wpX_server P u v1 v2 v3 v4) ∧ (∀ P : Int32 → SY → Prop, P r v' → wpY_server P v v1 v2 v3 v4) := by
  have I' := i_up I
  obtain ⟨now, nx, dn, w, h1, h2, h3, hR⟩ := I
  obtain ⟨rc, qn, zae, zal, zan, zat, zbr, zca, zcl, zcm, zcr, zen, zfa, zfi, zho, zhs, zky, zpa, zpt, zqx, zqy, zra, zre, zrp, zrs, zru, zse, zsi, zsl, zso, zst, zsu, zti, ztk, ztr, ztu, zup, zwe, zwl, zwo, zto, rfl, rfl, hset, hcli, hsrv, hrt, hfnd, hreq, hrun, hqs, htot⟩ := hR
  rcases px_6 v1 with h | ⟨s, hs, rfl⟩
  · refine ⟨0, _, _, I', fun P hP => ?_, fun P hP => ?_⟩
    · unfold wpX_server; exact rd_so h (br_t rfl hP)
    · unfold wpY_server; exact rd_yo6 h (br_t rfl hP)
  rcases pk_ix v2 (n := 10) (by decide) with h | h | ⟨a, ha, rfl⟩
  · refine ⟨0, _, _, I', fun P hP => ?_, fun P hP => ?_⟩
    · unfold wpX_server; exact rd_s1 hs (br_f rd_1n0 (br_t h hP))
    · unfold wpY_server; exact rd_y6 hs (br_f rd_1n0 (rd_y0 (Or.inl h) (br_t rfl hP)))
  · obtain ⟨ha, hb⟩ := px_hi (n := 9) (by decide) h
    refine ⟨0, _, _, I', fun P hP => ?_, fun P hP => ?_⟩
    · unfold wpX_server; exact rd_s1 hs (br_f rd_1n0 (br_f hb (br_t ha hP)))
    · unfold wpY_server; exact rd_y6 hs (br_f rd_1n0 (rd_y0 (Or.inr ha) (br_t rfl hP)))
  have a0 : ¬ nI a < 0 := nI_pos (by omega)
  have a1 : ¬ 9 < nI a := nI_nlt (a := 9) (by omega) (by decide)
  by_cases b0 : v3 < 1
  · refine ⟨0, _, _, I', fun P hP => ?_, fun P hP => ?_⟩
    · unfold wpX_server; exact rd_s1 hs (br_f rd_1n0 (br_f a0 (br_f a1 (br_t b0 hP))))
    · unfold wpY_server; exact rd_y6 hs (br_f rd_1n0 (rd_y1 a0 a1 (br_f rd_1n0 (rd_y0 (Or.inl b0) (br_t rfl hP)))))
  by_cases b1 : 8 < v3
  · refine ⟨0, _, _, I', fun P hP => ?_, fun P hP => ?_⟩
    · unfold wpX_server; exact rd_s1 hs (br_f rd_1n0 (br_f a0 (br_f a1 (br_f b0 (br_t b1 hP)))))
    · unfold wpY_server; exact rd_y6 hs (br_f rd_1n0 (rd_y1 a0 a1 (br_f rd_1n0 (rd_y0 (Or.inr b1) (br_t rfl hP)))))
  by_cases c0 : v4 < 1
  · refine ⟨0, _, _, I', fun P hP => ?_, fun P hP => ?_⟩
    · unfold wpX_server; exact rd_s1 hs (br_f rd_1n0 (br_f a0 (br_f a1 (br_f b0 (br_f b1 (br_t c0 hP))))))
    · unfold wpY_server; exact rd_y6 hs (br_f rd_1n0 (rd_y1 a0 a1 (br_f rd_1n0 (rd_y1 b0 b1 (br_f rd_1n0 (rd_y0 (Or.inl c0) (br_t rfl hP)))))))
  by_cases c1 : v4 ≤ 10
  · have hsi : vp_in (nI s) 6 := vp_in_nI hs (by decide)
    have es : (nI s).toNatClampNeg = s := nI_clamp (by omega)
    have hR' : md_R now nx dn now 0 0 w (nI now, nI rc, nI w, zse, zto, ztu, upd zwe s (nI a), upd zsl s v3, upd zpa s v4, zbr, zup, zti, zfa, zcr, zru, zsu, zfi, zrp, zrs, zca, zre, ztk, zho, zhs, zst, zcl, zpt, zky, zwo, zra, zcm, zen, zat, zan, ztr, zae, zal, zqx) (nI now, nI rc, nI nx, nI w, upd zwe s (nI a), upd zsl s v3, upd zpa s v4, zti, zfa, zcr, zsu, zsi, zwl, zbr, zup, zrp, zrs, zse, zca, zre, ztk, zho, zhs, zcl, zpt, zky, zwo, zra, zst, zat, zan, ztr, zcm, zen, zae, zal, zqy, zto, ztu, zso) :=
      md_mk hset hcli (fun j hj => by
        by_cases e : j = s
        · rw [e, pk_us]; exact ⟨⟨a, ha, rfl⟩, (hsrv s hs).2⟩
        · rw [pk_un e]; exact hsrv j hj) hrt hfnd hreq hrun hqs htot
    refine ⟨1, _, _, ⟨now, nx, dn, w, by omega, by omega, h3, hR'⟩, fun P hP => ?_, fun P hP => ?_⟩
    · unfold wpX_server
      rw [es]
      exact rd_s1 hs (br_f rd_1n0 (br_f a0 (br_f a1 (br_f b0 (br_f b1 (br_f c0 (br_t c1 ⟨hsi, nm_e ⟨hsi, nm_e ⟨hsi, nm_e hP⟩⟩⟩)))))))
    · unfold wpY_server
      rw [es]
      exact rd_y6 hs (br_f rd_1n0 (rd_y1 a0 a1 (br_f rd_1n0 (rd_y1 b0 b1 (br_f rd_1n0 (rd_y1 c0 (Int32.not_lt.mpr c1) (br_f rd_1n0 ⟨hsi, nm_e ⟨hsi, nm_e ⟨hsi, nm_e hP⟩⟩⟩)))))))
  · refine ⟨0, _, _, I', fun P hP => ?_, fun P hP => ?_⟩
    · unfold wpX_server; exact rd_s1 hs (br_f rd_1n0 (br_f a0 (br_f a1 (br_f b0 (br_f b1 (br_f c0 (br_f c1 hP)))))))
    · unfold wpY_server; exact rd_y6 hs (br_f rd_1n0 (rd_y1 a0 a1 (br_f rd_1n0 (rd_y1 b0 b1 (br_f rd_1n0 (rd_y0 (Or.inr (Int32.not_le.mp c1)) (br_t rfl hP)))))))
theorem i_vc_server {k : Nat} {u : SX} {v : SY} (I : i_Rel k u v) (hk : k + 6 ≤ 3072) (v1 : Int32) (v2 : Int32) (v3 : Int32) (v4 : Int32) : wpX_server (fun r u' => wpY_server (fun r' v' => r' = r ∧ i_Rel (k + 6) u' v') v v1 v2 v3 v4) u v1 v2 v3 v4 := by
  obtain ⟨r, u', v', hI, hX, hY⟩ := pu_server I v1 v2 v3 v4
  exact hX _ (hY _ ⟨rfl, hI⟩)
section
variable (now rc ql nx : Nat) (zae zal zan zat zbr zca zcl zcm zcr zen zfa zfi zho zhs zky zpa zpt zqx zqy zra zre zrp zrs zru zse zsi zsl zso zst zsu zsy zti ztk ztr ztu zup zwe zwl zwo : Nat → Int32) (zto : Nat → Int64)
theorem f2_loop (hr : rc ≤ 12) (p : Int32) : ∀ d j : Nat, j + d = rc → ∃ r : Int32, (r = -1 ∨ ∃ i : Nat, i < rc ∧ r = nI i ∧ zrp i = p) ∧
    (∀ (P : Int32 → Prop) (n : Nat), d < n → P r → wX_findRoute_2 P p (nI now) (nI rc) (nI ql) zse zto ztu zwe zsl zpa zbr zup zti zfa zcr zru zsu zfi zrp zrs zca zre ztk zho zhs zst zcl zpt zky zwo zra zcm zen zat zan ztr zae zal zqx n (nI j)) ∧ (∀ (P : Int32 → Prop) (n : Nat), d < n → P r → wY_findRoute_2 P p (nI now) (nI rc) (nI nx) (nI ql) zwe zsl zpa zti zfa zcr zsu zsi zwl zbr zup zrp zrs zse zca zre ztk zho zhs zcl zpt zky zwo zra zsy zat zan ztr zcm zen zae zal zqy zto ztu zso n (nI j)) := by
  intro d
  induction d with
  | zero =>
    intro j hj
    have h : nI rc ≤ nI j := nI_le (by omega) (by omega)
    exact ⟨-1, Or.inl rfl, fun P n hn hp => (by obtain ⟨m, rfl, hm_⟩ := fu_m hn; exact br_t h hp), fun P n hn hp => (by obtain ⟨m, rfl, hm_⟩ := fu_m hn; exact br_t h hp)⟩
  | succ d ih =>
    intro j hj
    have h : ¬ nI rc ≤ nI j := nI_ge (by omega) (by omega)
    have hi : vp_in (nI j) 12 := vp_in_nI (by omega) (by omega)
    by_cases z : zrp (nI j).toNatClampNeg = p
    · exact ⟨nI j, Or.inr ⟨j, by omega, rfl, by rw [nI_clamp (by omega)] at z; exact z⟩, fun P n hn hp => (by obtain ⟨m, rfl, hm_⟩ := fu_m hn; exact br_f h ⟨hi, br_t z hp⟩), fun P n hn hp => (by obtain ⟨m, rfl, hm_⟩ := fu_m hn; exact br_f h ⟨hi, br_t z hp⟩)⟩
    · obtain ⟨r, h0, hX, hY⟩ := ih (j + 1) (by omega)
      exact ⟨r, h0, fun P n hn hp => (by obtain ⟨m, rfl, hm⟩ := fu_m hn; exact br_f h ⟨hi, br_f z (nm_r (nI_1 j) (hX P m (by omega) hp))⟩), fun P n hn hp => (by obtain ⟨m, rfl, hm⟩ := fu_m hn; exact br_f h ⟨hi, br_f z (nm_r (nI_1 j) (hY P m (by omega) hp))⟩)⟩
theorem f2_pair (hr : rc ≤ 12) (p : Int32) : ∃ r : Int32, (r = -1 ∨ ∃ i : Nat, i < rc ∧ r = nI i ∧ zrp i = p) ∧
    (∀ P : Int32 → Prop, P r → wpX_findRoute P (nI now, nI rc, nI ql, zse, zto, ztu, zwe, zsl, zpa, zbr, zup, zti, zfa, zcr, zru, zsu, zfi, zrp, zrs, zca, zre, ztk, zho, zhs, zst, zcl, zpt, zky, zwo, zra, zcm, zen, zat, zan, ztr, zae, zal, zqx) p) ∧ (∀ P : Int32 → Prop, P r → wpY_findRoute P (nI now, nI rc, nI nx, nI ql, zwe, zsl, zpa, zti, zfa, zcr, zsu, zsi, zwl, zbr, zup, zrp, zrs, zse, zca, zre, ztk, zho, zhs, zcl, zpt, zky, zwo, zra, zsy, zat, zan, ztr, zcm, zen, zae, zal, zqy, zto, ztu, zso) p) := by
  obtain ⟨r, h0, hX, hY⟩ := f2_loop now rc ql nx zae zal zan zat zbr zca zcl zcm zcr zen zfa zfi zho zhs zky zpa zpt zqx zqy zra zre zrp zrs zru zse zsi zsl zso zst zsu zsy zti ztk ztr ztu zup zwe zwl zwo zto hr p rc 0 (by omega)
  exact ⟨r, h0, fun P hp => ⟨rc + 1, hX P _ (by omega) hp⟩, fun P hp => ⟨rc + 1, hY P _ (by omega) hp⟩⟩
end
theorem ud_id {f : Nat → Int32} {k : Nat} {x : Int32} (h : f k = x) : upd f k x = f := by rw [← h]; exact ud_same
theorem pu_route {k : Nat} {u : SX} {v : SY} (I : i_Rel k u v) (v1 v2 : Int32) : ∃ r u' v', i_Rel (k + 6) u' v' ∧ (∀ P : Int32 → SX → Prop, P r u' → wpX_route P u v1 v2) ∧ (∀ P : Int32 → SY → Prop, P r v' → wpY_route P v v1 v2) := by
  have I' := i_up I
  obtain ⟨now, nx, dn, w, h1, h2, h3, hR⟩ := I
  obtain ⟨rc, qn, zae, zal, zan, zat, zbr, zca, zcl, zcm, zcr, zen, zfa, zfi, zho, zhs, zky, zpa, zpt, zqx, zqy, zra, zre, zrp, zrs, zru, zse, zsi, zsl, zso, zst, zsu, zti, ztk, ztr, ztu, zup, zwe, zwl, zwo, zto, rfl, rfl, hset, hcli, hsrv, hrt, hfnd, hreq, hrun, hqs, htot⟩ := hR
  have hr12 : rc ≤ 12 := hrt.1
  have c2 : ((∀ P : Int32 → Prop, P 0 → wpX_isPath P v1) ∧ (∀ P : Int32 → Prop, P 0 → wpY_isPath P v1)) ∨ ∃ p : Nat, p < 4096 ∧ v1 = nI p ∧ (∀ P : Int32 → Prop, P 1 → wpX_isPath P v1) ∧ (∀ P : Int32 → Prop, P 1 → wpY_isPath P v1) := by
    rcases ip_pair v1 with ⟨p, hp, e, r, rfl | rfl, pX, pY⟩ | h
    · exact Or.inl ⟨pX, pY⟩
    · exact Or.inr ⟨p, hp, e, pX, pY⟩
    · exact Or.inl h
  rcases c2 with ⟨pX, pY⟩ | ⟨p, hp, rfl, pX, pY⟩
  · refine ⟨-1, _, _, I', fun P hP => ?_, fun P hP => ?_⟩
    · unfold wpX_route; exact pX _ (br_t rfl hP)
    · unfold wpY_route; exact pY _ (br_t rfl hP)
  rcases pk_ix v2 (n := 64) (by decide) with h | h | ⟨a, ha, rfl⟩
  · refine ⟨-1, _, _, I', fun P hP => ?_, fun P hP => ?_⟩
    · unfold wpX_route; exact pX _ (br_f rd_1n0 (br_t h hP))
    · unfold wpY_route; exact pY _ (br_f rd_1n0 (rd_y0 (Or.inl h) (br_t rfl hP)))
  · obtain ⟨ha, hb⟩ := px_hi (n := 63) (by decide) h
    refine ⟨-1, _, _, I', fun P hP => ?_, fun P hP => ?_⟩
    · unfold wpX_route; exact pX _ (br_f rd_1n0 (br_f hb (br_f (Int32.not_lt.mpr h) hP)))
    · unfold wpY_route; exact pY _ (br_f rd_1n0 (rd_y0 (Or.inr ha) (br_t rfl hP)))
  have a0 : ¬ nI a < 0 := nI_pos (by omega)
  have a1 : nI a < 64 := nI_lt (b := 64) ha (by decide)
  have a2 : ¬ 63 < nI a := nI_nlt (a := 63) (by omega) (by decide)
  obtain ⟨r, hr, rX, rY⟩ := f2_pair now rc w nx zae zal zan zat zbr zca zcl zcm zcr zen zfa zfi zho zhs zky zpa zpt zqx zqy zra zre zrp zrs zru zse zsi zsl zso zst zsu zst zti ztk ztr ztu zup zwe zwl zwo zto hr12 (nI p)
  rcases hr with rfl | ⟨i, hi, rfl, hrp⟩
  · by_cases z : rc < 12
    · have hci : vp_in (nI rc) 12 := vp_in_nI z (by decide)
      have ec : (nI rc).toNatClampNeg = rc := nI_clamp (by omega)
      have z1 : nI rc < 12 := nI_lt (b := 12) z (by decide)
      have z2 : ¬ nI rc = 12 := fun y => by have := (nI_eq (b := 12) (by omega) (by decide)).mp y; omega
      have hR' : md_R now nx dn now 0 0 w (nI now, nI (rc + 1), nI w, zse, zto, ztu, zwe, zsl, zpa, zbr, zup, zti, zfa, zcr, zru, zsu, zfi, upd zrp rc (nI p), upd zrs rc (nI a), zca, zre, ztk, zho, zhs, zst, zcl, zpt, zky, zwo, zra, zcm, zen, zat, zan, ztr, zae, zal, zqx) (nI now, nI (rc + 1), nI nx, nI w, zwe, zsl, zpa, zti, zfa, zcr, zsu, zsi, zwl, zbr, zup, upd zrp rc (nI p), upd zrs rc (nI a), zse, zca, zre, ztk, zho, zhs, zcl, zpt, zky, zwo, zra, zst, zat, zan, ztr, zcm, zen, zae, zal, zqy, zto, ztu, zso) :=
        md_mk hset hcli hsrv ⟨by omega, fun j hj => by
          by_cases e : j = rc
          · rw [e, pk_us]; exact nI_pos' (by omega)
          · rw [pk_un e]; exact hrt.2 j (by omega)⟩ hfnd hreq hrun hqs htot
      have e1 : upd zrp (nI rc).toNatClampNeg (nI p) = upd zrp rc (nI p) := by rw [ec]
      have e2 : upd zrs (nI rc).toNatClampNeg (nI a) = upd zrs rc (nI a) := by rw [ec]
      refine ⟨nI (rc + 1), _, _, ⟨now, nx, dn, w, by omega, by omega, h3, hR'⟩, fun P hP => ?_, fun P hP => ?_⟩
      · unfold wpX_route
        exact pX _ (br_f rd_1n0 (br_f a0 (br_t a1 (rX _ (br_t rfl (br_t z1 ⟨hci, nm_r e1 (nm_r (nI_1 rc) ⟨hci, nm_r e2 hP⟩)⟩))))))
      · unfold wpY_route
        exact pY _ (br_f rd_1n0 (rd_y1 a0 a2 (br_f rd_1n0 (rY _ (br_f (by decide) (br_f z2 (br_f (by decide) (nm_r (nI_1 rc) ⟨hci, nm_r e1 ⟨hci, nm_r e2 hP⟩⟩))))))))
    · have e : rc = 12 := by omega
      subst e
      refine ⟨-2, _, _, I', fun P hP => ?_, fun P hP => ?_⟩
      · unfold wpX_route
        exact pX _ (br_f rd_1n0 (br_f a0 (br_t a1 (rX _ (br_t rfl (br_f (show ¬ nI 12 < 12 by decide) hP))))))
      · unfold wpY_route
        exact pY _ (br_f rd_1n0 (rd_y1 a0 a2 (br_f rd_1n0 (rY _ (br_f (by decide) (br_t rfl hP))))))
  · have hii : vp_in (nI i) 12 := vp_in_nI (by omega) (by decide)
    have ei : (nI i).toNatClampNeg = i := nI_clamp (by omega)
    have i0 : 0 ≤ nI i := nI_pos' (by omega)
    have hR' : md_R now nx dn now 0 0 w (nI now, nI rc, nI w, zse, zto, ztu, zwe, zsl, zpa, zbr, zup, zti, zfa, zcr, zru, zsu, zfi, zrp, upd zrs i (nI a), zca, zre, ztk, zho, zhs, zst, zcl, zpt, zky, zwo, zra, zcm, zen, zat, zan, ztr, zae, zal, zqx) (nI now, nI rc, nI nx, nI w, zwe, zsl, zpa, zti, zfa, zcr, zsu, zsi, zwl, zbr, zup, zrp, upd zrs i (nI a), zse, zca, zre, ztk, zho, zhs, zcl, zpt, zky, zwo, zra, zst, zat, zan, ztr, zcm, zen, zae, zal, zqy, zto, ztu, zso) :=
      md_mk hset hcli hsrv ⟨hr12, fun j hj => by
        by_cases e : j = i
        · rw [e, pk_us]; exact nI_pos' (by omega)
        · rw [pk_un e]; exact hrt.2 j hj⟩ hfnd hreq hrun hqs htot
    have e1 : upd zrp (nI i).toNatClampNeg (nI p) = zrp := by rw [ei]; exact ud_id hrp
    have e2 : upd zrs (nI i).toNatClampNeg (nI a) = upd zrs i (nI a) := by rw [ei]
    refine ⟨nI rc, _, _, ⟨now, nx, dn, w, by omega, by omega, h3, hR'⟩, fun P hP => ?_, fun P hP => ?_⟩
    · unfold wpX_route
      exact pX _ (br_f rd_1n0 (br_f a0 (br_t a1 (rX _ (br_f (ms_nI_m1 (by omega)) ⟨hii, nm_r e2 hP⟩)))))
    · unfold wpY_route
      exact pY _ (br_f rd_1n0 (rd_y1 a0 a2 (br_f rd_1n0 (rY _ (br_t i0 (br_t i0 ⟨hii, nm_r e1 ⟨hii, nm_r e2 hP⟩⟩))))))
theorem i_vc_route {k : Nat} {u : SX} {v : SY} (I : i_Rel k u v) (hk : k + 6 ≤ 3072) (v1 : Int32) (v2 : Int32) : wpX_route (fun r u' => wpY_route (fun r' v' => r' = r ∧ i_Rel (k + 6) u' v') v v1 v2) u v1 v2 := by
  obtain ⟨r, u', v', hI, hX, hY⟩ := pu_route I v1 v2
  exact hX _ (hY _ ⟨rfl, hI⟩)
theorem pu_unroute {k : Nat} {u : SX} {v : SY} (I : i_Rel k u v) (v1 : Int32) : ∃ r u' v', i_Rel (k + 6) u' v' ∧ (∀ P : Int32 → SX → Prop, P r u' → wpX_unroute P u v1) ∧ (∀ P : Int32 → SY → Prop, P r v' → wpY_unroute P v v1) := by
  have I' := i_up I
  obtain ⟨now, nx, dn, w, h1, h2, h3, hR⟩ := I
  obtain ⟨rc, qn, zae, zal, zan, zat, zbr, zca, zcl, zcm, zcr, zen, zfa, zfi, zho, zhs, zky, zpa, zpt, zqx, zqy, zra, zre, zrp, zrs, zru, zse, zsi, zsl, zso, zst, zsu, zti, ztk, ztr, ztu, zup, zwe, zwl, zwo, zto, rfl, rfl, hset, hcli, hsrv, hrt, hfnd, hreq, hrun, hqs, htot⟩ := hR
  have hr12 : rc ≤ 12 := hrt.1
  obtain ⟨r, hr, rX, rY⟩ := f2_pair now rc w nx zae zal zan zat zbr zca zcl zcm zcr zen zfa zfi zho zhs zky zpa zpt zqx zqy zra zre zrp zrs zru zse zsi zsl zso zst zsu zst zti ztk ztr ztu zup zwe zwl zwo zto hr12 v1
  rcases hr with rfl | ⟨i, hi, rfl, hrp⟩
  · refine ⟨0, _, _, I', fun P hP => ?_, fun P hP => ?_⟩
    · unfold wpX_unroute; exact rX _ (br_t rfl hP)
    · unfold wpY_unroute; exact rY _ (br_f (by decide) hP)
  · have hii : vp_in (nI i) 12 := vp_in_nI (by omega) (by decide)
    have ei : (nI i).toNatClampNeg = i := nI_clamp (by omega)
    have i0 : 0 ≤ nI i := nI_pos' (by omega)
    have e1 : nI rc - 1 = nI (rc - 1) := pk_sub (b := 1) (by omega)
    have hci : vp_in (nI (rc - 1)) 12 := vp_in_nI (by omega) (by decide)
    have ec : (nI (rc - 1)).toNatClampNeg = rc - 1 := nI_clamp (by omega)
    have e2 : upd zrp (nI i).toNatClampNeg (zrp (nI (rc - 1)).toNatClampNeg) = upd zrp i (zrp (rc - 1)) := by rw [ei, ec]
    have e3 : upd zrs (nI i).toNatClampNeg (zrs (nI (rc - 1)).toNatClampNeg) = upd zrs i (zrs (rc - 1)) := by rw [ei, ec]
    have hR' : md_R now nx dn now 0 0 w (nI now, nI (rc - 1), nI w, zse, zto, ztu, zwe, zsl, zpa, zbr, zup, zti, zfa, zcr, zru, zsu, zfi, upd zrp i (zrp (rc - 1)), upd zrs i (zrs (rc - 1)), zca, zre, ztk, zho, zhs, zst, zcl, zpt, zky, zwo, zra, zcm, zen, zat, zan, ztr, zae, zal, zqx) (nI now, nI (rc - 1), nI nx, nI w, zwe, zsl, zpa, zti, zfa, zcr, zsu, zsi, zwl, zbr, zup, upd zrp i (zrp (rc - 1)), upd zrs i (zrs (rc - 1)), zse, zca, zre, ztk, zho, zhs, zcl, zpt, zky, zwo, zra, zst, zat, zan, ztr, zcm, zen, zae, zal, zqy, zto, ztu, zso) :=
      md_mk hset hcli hsrv ⟨by omega, fun j hj => by
        by_cases e : j = i
        · rw [e, pk_us]; exact hrt.2 (rc - 1) (by omega)
        · rw [pk_un e]; exact hrt.2 j (by omega)⟩ hfnd hreq hrun hqs htot
    refine ⟨1, _, _, ⟨now, nx, dn, w, by omega, by omega, h3, hR'⟩, fun P hP => ?_, fun P hP => ?_⟩
    · unfold wpX_unroute
      exact rX _ (br_f (ms_nI_m1 (by omega)) (nm_r e1 ⟨hci, hii, nm_r e2 ⟨hci, hii, nm_r e3 hP⟩⟩))
    · unfold wpY_unroute
      exact rY _ (br_t i0 (nm_r e1 ⟨hci, hii, nm_r e2 ⟨hci, hii, nm_r e3 hP⟩⟩))
theorem i_vc_unroute {k : Nat} {u : SX} {v : SY} (I : i_Rel k u v) (hk : k + 6 ≤ 3072) (v1 : Int32) : wpX_unroute (fun r u' => wpY_unroute (fun r' v' => r' = r ∧ i_Rel (k + 6) u' v') v v1) u v1 := by
  obtain ⟨r, u', v', hI, hX, hY⟩ := pu_unroute I v1
  exact hX _ (hY _ ⟨rfl, hI⟩)
