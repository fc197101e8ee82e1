/-! the methods that only ask, but took -/
theorem i_vc_time {k : Nat} {u : SX} {v : SY} (I : i_Rel k u v) (hk : k + 6 ≤ 3072) : wpX_time (fun r => wpY_time (fun r' => r' = r ∧ i_Rel (k + 6) u v) v) u := by
  have I' := i_up I
  obtain ⟨now, nx, dn, w, h1, h2, h3, hR⟩ := I
  obtain ⟨rc, qn, zae, zal, zan, zat, zbr, zca, zcl, zcm, zcr, zen, zfa, zfi, zho, zhs, zky, zpa, zpt, zqx, zqy, zra, zre, zrp, zrs, zru, zse, zsi, zsl, zso, zst, zsu, zti, ztk, ztr, ztu, zup, zwe, zwl, zwo, zto, rfl, rfl, hset, hcli, hsrv, hrt, hfnd, hreq, hrun, hqs, htot⟩ := hR
  exact ⟨rfl, I'⟩
section
variable (now rc ql nx : Nat) (zae zal zan zat zbr zca zcl zcm zcr zen zfa zfi zho zhs zky zpa zpt zqx zqy zra zre zrp zrs zru zse zsi zsl zso zst zsu zsy zti ztk ztr ztu zup zwe zwl zwo : Nat → Int32) (zto : Nat → Int64)
theorem kp_pair {dn : Nat} (hnx : nx < 2 ^ 30) (htot : iv_tot nx dn zto) (v : Int32) : ((∀ P : Int32 → Prop, P 0 → wpX_isKept P (nI now, nI rc, nI ql, zse, zto, ztu, zwe, zsl, zpa, zbr, zup, zti, zfa, zcr, zru, zsu, zfi, zrp, zrs, zca, zre, ztk, zho, zhs, zst, zcl, zpt, zky, zwo, zra, zcm, zen, zat, zan, ztr, zae, zal, zqx) v) ∧ (∀ P : Int32 → Prop, P 0 → wpY_isRequest P (nI now, nI rc, nI nx, nI ql, zwe, zsl, zpa, zti, zfa, zcr, zsu, zsi, zwl, zbr, zup, zrp, zrs, zse, zca, zre, ztk, zho, zhs, zcl, zpt, zky, zwo, zra, zsy, zat, zan, ztr, zcm, zen, zae, zal, zqy, zto, ztu, zso) v)) ∨
    ∃ j : Nat, j < nx ∧ v = nI j ∧ (∀ P : Int32 → Prop, P 1 → wpX_isKept P (nI now, nI rc, nI ql, zse, zto, ztu, zwe, zsl, zpa, zbr, zup, zti, zfa, zcr, zru, zsu, zfi, zrp, zrs, zca, zre, ztk, zho, zhs, zst, zcl, zpt, zky, zwo, zra, zcm, zen, zat, zan, ztr, zae, zal, zqx) v) ∧ (∀ P : Int32 → Prop, P 1 → wpY_isRequest P (nI now, nI rc, nI nx, nI ql, zwe, zsl, zpa, zti, zfa, zcr, zsu, zsi, zwl, zbr, zup, zrp, zrs, zse, zca, zre, ztk, zho, zhs, zcl, zpt, zky, zwo, zra, zsy, zat, zan, ztr, zcm, zen, zae, zal, zqy, zto, ztu, zso) v) := by
  by_cases h : v < 0
  · exact Or.inl ⟨fun P hP => br_t h hP, fun P hP => br_t h hP⟩
  · obtain ⟨j, hj, rfl⟩ := nI_of h
    have x1 : zto 0 ≤ (nI j).toInt64 ↔ nx ≤ j := by rw [htot.1, nI_l hj]; exact pk_lLE (by omega) (by omega)
    have y1 : nI nx ≤ nI j ↔ nx ≤ j := nI_leI (by omega) hj
    by_cases z : nx ≤ j
    · exact Or.inl ⟨fun P hP => br_f h (br_t (x1.mpr z) hP), fun P hP => br_f h (br_t (y1.mpr z) hP)⟩
    · have x2 : (nI j).toInt64 < zto 0 - 32 ↔ ¬ nx ≤ j + 32 := by rw [htot.1, ← ms_keptL hj (by omega)]; exact Int64.not_le.symm
      have y2 : nI j < nI nx - 32 ↔ ¬ nx ≤ j + 32 := by rw [← ms_keptI hj hnx]; exact Int32.not_le.symm
      by_cases y : nx ≤ j + 32
      · exact Or.inr ⟨j, by omega, rfl, fun P hP => br_f h (br_f (fun q => z (x1.mp q)) (br_f (fun q => (x2.mp q) y) hP)), fun P hP => br_f h (br_f (fun q => z (y1.mp q)) (br_f (fun q => (y2.mp q) y) hP))⟩
      · exact Or.inl ⟨fun P hP => br_f h (br_f (fun q => z (x1.mp q)) (br_t (x2.mpr y) hP)), fun P hP => br_f h (br_f (fun q => z (y1.mp q)) (br_t (y2.mpr y) hP))⟩
end
theorem pu_state {k : Nat} {u : SX} {v : SY} (I : i_Rel k u v) (hk : k + 6 ≤ 3072) (v1 : Int32) : ∃ r, (∀ P : Int32 → Prop, P r → wpX_state P u v1) ∧ (∀ P : Int32 → Prop, P r → wpY_state P v v1) := by
  obtain ⟨now, nx, dn, w, h1, h2, h3, hR⟩ := I
  obtain ⟨rc, qn, zae, zal, zan, zat, zbr, zca, zcl, zcm, zcr, zen, zfa, zfi, zho, zhs, zky, zpa, zpt, zqx, zqy, zra, zre, zrp, zrs, zru, zse, zsi, zsl, zso, zst, zsu, zti, ztk, ztr, ztu, zup, zwe, zwl, zwo, zto, rfl, rfl, hset, hcli, hsrv, hrt, hfnd, hreq, hrun, hqs, htot⟩ := hR
  rcases kp_pair now rc w nx zae zal zan zat zbr zca zcl zcm zcr zen zfa zfi zho zhs zky zpa zpt zqx zqy zra zre zrp zrs zru zse zsi zsl zso zst zsu zst zti ztk ztr ztu zup zwe zwl zwo zto (by omega) htot v1 with ⟨hX, hY⟩ | ⟨j, hj, rfl, hX, hY⟩
  · refine ⟨-1, fun P hP => ?_, fun P hP => ?_⟩
    · unfold wpX_state; exact hX _ (br_t rfl hP)
    · unfold wpY_state; exact hY _ (br_t rfl hP)
  · have e1 : nI j &&& 31 = nI (j % 32) := ms_slot (by omega)
    have e2 : nI j - nI j / 32 * 32 = nI (j % 32) := ms_rem (by omega)
    have hi : vp_in (nI (j % 32)) 32 := vp_in_nI (Nat.mod_lt _ (by decide)) (by decide)
    have h0 : ¬ (32 : Int32) = 0 := by decide
    refine ⟨zst (nI (j % 32)).toNatClampNeg, fun P hP => ?_, fun P hP => ?_⟩
    · unfold wpX_state
      rw [e1]
      exact hX _ (br_f rd_1n0 ⟨hi, hP⟩)
    · unfold wpY_state
      rw [e2]
      exact hY _ (br_f rd_1n0 ⟨h0, hi, hP⟩)
theorem i_vc_state {k : Nat} {u : SX} {v : SY} (I : i_Rel k u v) (hk : k + 6 ≤ 3072) (v1 : Int32) : wpX_state (fun r => wpY_state (fun r' => r' = r ∧ i_Rel (k + 6) u v) v v1) u v1 := by
  obtain ⟨r, hX, hY⟩ := pu_state I hk v1
  exact hX _ (hY _ ⟨rfl, i_up I⟩)
theorem pu_about {k : Nat} {u : SX} {v : SY} (I : i_Rel k u v) (hk : k + 6 ≤ 3072) (v1 v2 : Int32) : ∃ r, (∀ P : Int32 → Prop, P r → wpX_about P u v1 v2) ∧ (∀ P : Int32 → Prop, P r → wpY_about P v v1 v2) := by
  obtain ⟨now, nx, dn, w, h1, h2, h3, hR⟩ := I
  obtain ⟨rc, qn, zae, zal, zan, zat, zbr, zca, zcl, zcm, zcr, zen, zfa, zfi, zho, zhs, zky, zpa, zpt, zqx, zqy, zra, zre, zrp, zrs, zru, zse, zsi, zsl, zso, zst, zsu, zti, ztk, ztr, ztu, zup, zwe, zwl, zwo, zto, rfl, rfl, hset, hcli, hsrv, hrt, hfnd, hreq, hrun, hqs, htot⟩ := hR
  rcases kp_pair now rc w nx zae zal zan zat zbr zca zcl zcm zcr zen zfa zfi zho zhs zky zpa zpt zqx zqy zra zre zrp zrs zru zse zsi zsl zso zst zsu zst zti ztk ztr ztu zup zwe zwl zwo zto (by omega) htot v1 with ⟨hX, hY⟩ | ⟨j, hj, rfl, hX, hY⟩
  · refine ⟨-2, fun P hP => ?_, fun P hP => ?_⟩
    · unfold wpX_about; exact hX _ (br_t rfl hP)
    · unfold wpY_about; exact hY _ (br_t rfl hP)
  · have e1 : nI j &&& 31 = nI (j % 32) := ms_slot (by omega)
    have e2 : nI j - nI j / 32 * 32 = nI (j % 32) := ms_rem (by omega)
    have hi : vp_in (nI (j % 32)) 32 := vp_in_nI (Nat.mod_lt _ (by decide)) (by decide)
    have h0 : ¬ (32 : Int32) = 0 := by decide
    rcases pk_ix v2 (n := 4) (by decide) with h | h | ⟨q, hq, rfl⟩
    · refine ⟨-2, fun P hP => ?_, fun P hP => ?_⟩
      · unfold wpX_about; exact hX _ (br_f rd_1n0 (nm_e (br_t h hP)))
      · unfold wpY_about; exact hY _ (br_f rd_1n0 (rd_y0 (Or.inl h) (br_t rfl hP)))
    · obtain ⟨ha, hb⟩ := px_hi (n := 3) (by decide) h
      refine ⟨-2, fun P hP => ?_, fun P hP => ?_⟩
      · unfold wpX_about; exact hX _ (br_f rd_1n0 (nm_e (br_f hb (br_t ha hP))))
      · unfold wpY_about; exact hY _ (br_f rd_1n0 (rd_y0 (Or.inr ha) (br_t rfl hP)))
    · match q, hq with
      | 0, _ =>
        refine ⟨zat (nI (j % 32)).toNatClampNeg, fun P hP => ?_, fun P hP => ?_⟩
        · unfold wpX_about; exact hX _ (br_f rd_1n0 (nm_r e1 (br_f (by decide) (br_f (by decide) (br_t rfl ⟨hi, hP⟩)))))
        · unfold wpY_about; exact hY _ (br_f rd_1n0 (rd_y1 (by decide) (by decide) (br_f rd_1n0 ⟨h0, nm_r e2 (br_t rfl ⟨hi, hP⟩)⟩)))
      | 1, _ =>
        refine ⟨zan (nI (j % 32)).toNatClampNeg, fun P hP => ?_, fun P hP => ?_⟩
        · unfold wpX_about; exact hX _ (br_f rd_1n0 (nm_r e1 (br_f (by decide) (br_f (by decide) (br_f (by decide) (br_t rfl ⟨hi, hP⟩))))))
        · unfold wpY_about; exact hY _ (br_f rd_1n0 (rd_y1 (by decide) (by decide) (br_f rd_1n0 ⟨h0, nm_r e2 (br_f (by decide) (br_t rfl ⟨hi, hP⟩))⟩)))
      | 2, _ =>
        refine ⟨zcm (nI (j % 32)).toNatClampNeg, fun P hP => ?_, fun P hP => ?_⟩
        · unfold wpX_about; exact hX _ (br_f rd_1n0 (nm_r e1 (br_f (by decide) (br_f (by decide) (br_f (by decide) (br_f (by decide) (br_t rfl ⟨hi, hP⟩)))))))
        · unfold wpY_about; exact hY _ (br_f rd_1n0 (rd_y1 (by decide) (by decide) (br_f rd_1n0 ⟨h0, nm_r e2 (br_f (by decide) (br_f (by decide) (br_t rfl ⟨hi, hP⟩)))⟩)))
      | 3, _ =>
        refine ⟨zen (nI (j % 32)).toNatClampNeg, fun P hP => ?_, fun P hP => ?_⟩
        · unfold wpX_about; exact hX _ (br_f rd_1n0 (nm_r e1 (br_f (by decide) (br_f (by decide) (br_f (by decide) (br_f (by decide) (br_f (by decide) (br_t rfl ⟨hi, hP⟩))))))))
        · unfold wpY_about; exact hY _ (br_f rd_1n0 (rd_y1 (by decide) (by decide) (br_f rd_1n0 ⟨h0, nm_r e2 (br_f (by decide) (br_f (by decide) (br_f (by decide) ⟨hi, hP⟩)))⟩)))
theorem i_vc_about {k : Nat} {u : SX} {v : SY} (I : i_Rel k u v) (hk : k + 6 ≤ 3072) (v1 : Int32) (v2 : Int32) : wpX_about (fun r => wpY_about (fun r' => r' = r ∧ i_Rel (k + 6) u v) v v1 v2) u v1 v2 := by
  obtain ⟨r, hX, hY⟩ := pu_about I hk v1 v2
  exact hX _ (hY _ ⟨rfl, i_up I⟩)
theorem pu_at {k : Nat} {u : SX} {v : SY} (I : i_Rel k u v) (hk : k + 6 ≤ 3072) (v1 v2 : Int32) : ∃ r, (∀ P : Int32 → Prop, P r → wpX_at P u v1 v2) ∧ (∀ P : Int32 → Prop, P r → wpY_at P v v1 v2) := by
  obtain ⟨now, nx, dn, w, h1, h2, h3, hR⟩ := I
  obtain ⟨rc, qn, zae, zal, zan, zat, zbr, zca, zcl, zcm, zcr, zen, zfa, zfi, zho, zhs, zky, zpa, zpt, zqx, zqy, zra, zre, zrp, zrs, zru, zse, zsi, zsl, zso, zst, zsu, zti, ztk, ztr, ztu, zup, zwe, zwl, zwo, zto, rfl, rfl, hset, hcli, hsrv, hrt, hfnd, hreq, hrun, hqs, htot⟩ := hR
  rcases px_6 v1 with h | ⟨s, hs, rfl⟩
  · refine ⟨-1, fun P hP => ?_, fun P hP => ?_⟩
    · unfold wpX_at; exact rd_so h (br_t rfl hP)
    · unfold wpY_at; exact rd_yo6 h (br_t rfl hP)
  have hi : vp_in (nI s) 6 := vp_in_nI hs (by decide)
  have es : (nI s).toNatClampNeg = s := nI_clamp (by omega)
  rcases pk_ix v2 (n := 6) (by decide) with h | h | ⟨q, hq, rfl⟩
  · refine ⟨-1, fun P hP => ?_, fun P hP => ?_⟩
    · unfold wpX_at; exact rd_s1 hs (br_f rd_1n0 (br_t h hP))
    · unfold wpY_at; exact rd_y6 hs (br_f rd_1n0 (br_t h hP))
  · obtain ⟨ha, hb⟩ := px_hi (n := 5) (by decide) h
    refine ⟨-1, fun P hP => ?_, fun P hP => ?_⟩
    · unfold wpX_at; exact rd_s1 hs (br_f rd_1n0 (br_f hb (br_t ha hP)))
    · unfold wpY_at; exact rd_y6 hs (br_f rd_1n0 (br_f hb (br_t ha hP)))
  match q, hq with
  | 0, _ =>
    refine ⟨zru s, fun P hP => ?_, fun P hP => ?_⟩
    · unfold wpX_at
      rw [es]
      exact rd_s1 hs (br_f rd_1n0 (br_f (by decide) (br_f (by decide) (br_t rfl ⟨hi, hP⟩))))
    · unfold wpY_at
      exact rd_y6 hs (br_f rd_1n0 (br_f (by decide) (br_f (by decide) (br_t rfl (rn_run now rc w nx zae zal zan zat zbr zca zcl zcm zcr zen zfa zho zhs zky zpa zpt zqy zra zre zrp zrs zse zsi zsl zso zsu zst zti ztk ztr ztu zup zwe zwl zwo zto (by omega) hrun.1 (nI s) _ (by rw [← hrun.2 s hs]; exact hP))))))
  | 1, _ =>
    by_cases z : zup (nI s).toNatClampNeg = 0
    · refine ⟨0, fun P hP => ?_, fun P hP => ?_⟩
      · unfold wpX_at
        exact rd_s1 hs (br_f rd_1n0 (br_f (by decide) (br_f (by decide) (br_f (by decide) (br_t rfl ⟨hi, br_t z hP⟩)))))
      · unfold wpY_at
        exact rd_y6 hs (br_f rd_1n0 (br_f (by decide) (br_f (by decide) (br_f (by decide) (br_t rfl ⟨hi, br_t z hP⟩)))))
    · refine ⟨1, fun P hP => ?_, fun P hP => ?_⟩
      · unfold wpX_at
        exact rd_s1 hs (br_f rd_1n0 (br_f (by decide) (br_f (by decide) (br_f (by decide) (br_t rfl ⟨hi, br_f z hP⟩)))))
      · unfold wpY_at
        exact rd_y6 hs (br_f rd_1n0 (br_f (by decide) (br_f (by decide) (br_f (by decide) (br_t rfl ⟨hi, br_f z hP⟩)))))
  | 2, _ =>
    by_cases z : zti s = -1
    · have z0 : ¬ 0 ≤ zti s := by rw [z]; decide
      refine ⟨0, fun P hP => ?_, fun P hP => ?_⟩
      · unfold wpX_at
        rw [es]
        exact rd_s1 hs (br_f rd_1n0 (br_f (by decide) (br_f (by decide) (br_f (by decide) (br_f (by decide) (br_t rfl ⟨hi, br_t z hP⟩))))))
      · unfold wpY_at
        rw [es]
        exact rd_y6 hs (br_f rd_1n0 (br_f (by decide) (br_f (by decide) (br_f (by decide) (br_f (by decide) (br_t rfl ⟨hi, br_f z0 hP⟩))))))
    · have z0 : 0 ≤ zti s := (hsrv s hs).2.resolve_left z
      by_cases y : zti s ≤ nI now
      · refine ⟨2, fun P hP => ?_, fun P hP => ?_⟩
        · unfold wpX_at
          rw [es]
          exact rd_s1 hs (br_f rd_1n0 (br_f (by decide) (br_f (by decide) (br_f (by decide) (br_f (by decide) (br_t rfl ⟨hi, br_f z ⟨hi, br_t y hP⟩⟩))))))
        · unfold wpY_at
          rw [es]
          exact rd_y6 hs (br_f rd_1n0 (br_f (by decide) (br_f (by decide) (br_f (by decide) (br_f (by decide) (br_t rfl ⟨hi, br_t z0 ⟨hi, br_t y hP⟩⟩))))))
      · refine ⟨1, fun P hP => ?_, fun P hP => ?_⟩
        · unfold wpX_at
          rw [es]
          exact rd_s1 hs (br_f rd_1n0 (br_f (by decide) (br_f (by decide) (br_f (by decide) (br_f (by decide) (br_t rfl ⟨hi, br_f z ⟨hi, br_f y hP⟩⟩))))))
        · unfold wpY_at
          rw [es]
          exact rd_y6 hs (br_f rd_1n0 (br_f (by decide) (br_f (by decide) (br_f (by decide) (br_f (by decide) (br_t rfl ⟨hi, br_t z0 ⟨hi, br_f y hP⟩⟩))))))
  | 3, _ =>
    refine ⟨zfa (nI s).toNatClampNeg, fun P hP => ?_, fun P hP => ?_⟩
    · unfold wpX_at
      exact rd_s1 hs (br_f rd_1n0 (br_f (by decide) (br_f (by decide) (br_f (by decide) (br_f (by decide) (br_f (by decide) (br_t rfl ⟨hi, hP⟩)))))))
    · unfold wpY_at
      exact rd_y6 hs (br_f rd_1n0 (br_f (by decide) (br_f (by decide) (br_f (by decide) (br_f (by decide) (br_f (by decide) (br_t rfl ⟨hi, hP⟩)))))))
  | 4, _ =>
    refine ⟨zsu (nI s).toNatClampNeg, fun P hP => ?_, fun P hP => ?_⟩
    · unfold wpX_at
      exact rd_s1 hs (br_f rd_1n0 (br_f (by decide) (br_f (by decide) (br_f (by decide) (br_f (by decide) (br_f (by decide) (br_f (by decide) (br_t rfl ⟨hi, hP⟩))))))))
    · unfold wpY_at
      exact rd_y6 hs (br_f rd_1n0 (br_f (by decide) (br_f (by decide) (br_f (by decide) (br_f (by decide) (br_f (by decide) (br_f (by decide) (br_t rfl ⟨hi, hP⟩))))))))
  | 5, _ =>
    refine ⟨zcr (nI s).toNatClampNeg + 1000, fun P hP => ?_, fun P hP => ?_⟩
    · unfold wpX_at
      exact rd_s1 hs (br_f rd_1n0 (br_f (by decide) (br_f (by decide) (br_f (by decide) (br_f (by decide) (br_f (by decide) (br_f (by decide) (br_f (by decide) (br_t rfl ⟨hi, hP⟩)))))))))
    · unfold wpY_at
      exact rd_y6 hs (br_f rd_1n0 (br_f (by decide) (br_f (by decide) (br_f (by decide) (br_f (by decide) (br_f (by decide) (br_f (by decide) (br_f (by decide) (br_t rfl ⟨hi, hP⟩)))))))))
theorem i_vc_at {k : Nat} {u : SX} {v : SY} (I : i_Rel k u v) (hk : k + 6 ≤ 3072) (v1 : Int32) (v2 : Int32) : wpX_at (fun r => wpY_at (fun r' => r' = r ∧ i_Rel (k + 6) u v) v v1 v2) u v1 v2 := by
  obtain ⟨r, hX, hY⟩ := pu_at I hk v1 v2
  exact hX _ (hY _ ⟨rfl, i_up I⟩)
theorem pu_tokens {k : Nat} {u : SX} {v : SY} (I : i_Rel k u v) (v1 : Int32) : ∃ r, (∀ P : Int32 → Prop, P r → wpX_tokens P u v1) ∧ (∀ P : Int32 → Prop, P r → wpY_tokens P v v1) := by
  obtain ⟨now, nx, dn, w, h1, h2, h3, hR⟩ := I
  obtain ⟨rc, qn, zae, zal, zan, zat, zbr, zca, zcl, zcm, zcr, zen, zfa, zfi, zho, zhs, zky, zpa, zpt, zqx, zqy, zra, zre, zrp, zrs, zru, zse, zsi, zsl, zso, zst, zsu, zti, ztk, ztr, ztu, zup, zwe, zwl, zwo, zto, rfl, rfl, hset, hcli, hsrv, hrt, hfnd, hreq, hrun, hqs, htot⟩ := hR
  rcases px_6 v1 with h | ⟨s, hs, rfl⟩
  · refine ⟨-1, fun P hP => ?_, fun P hP => ?_⟩
    · unfold wpX_tokens; exact rd_co h (br_t rfl hP)
    · unfold wpY_tokens; exact rd_yo6 h (br_t rfl hP)
  · have hi : vp_in (nI s) 6 := vp_in_nI hs (by decide)
    refine ⟨ztk (nI s).toNatClampNeg, fun P hP => ?_, fun P hP => ?_⟩
    · unfold wpX_tokens; exact rd_c1 hs (br_f rd_1n0 ⟨hi, hP⟩)
    · unfold wpY_tokens; exact rd_y6 hs (br_f rd_1n0 ⟨hi, hP⟩)
theorem i_vc_tokens {k : Nat} {u : SX} {v : SY} (I : i_Rel k u v) (hk : k + 6 ≤ 3072) (v1 : Int32) : wpX_tokens (fun r => wpY_tokens (fun r' => r' = r ∧ i_Rel (k + 6) u v) v v1) u v1 := by
  obtain ⟨r, hX, hY⟩ := pu_tokens I v1
  exact hX _ (hY _ ⟨rfl, i_up I⟩)
theorem pu_home {k : Nat} {u : SX} {v : SY} (I : i_Rel k u v) (v1 : Int32) : ∃ r, (∀ P : Int32 → Prop, P r → wpX_home P u v1) ∧ (∀ P : Int32 → Prop, P r → wpY_home P v v1) := by
  obtain ⟨now, nx, dn, w, h1, h2, h3, hR⟩ := I
  obtain ⟨rc, qn, zae, zal, zan, zat, zbr, zca, zcl, zcm, zcr, zen, zfa, zfi, zho, zhs, zky, zpa, zpt, zqx, zqy, zra, zre, zrp, zrs, zru, zse, zsi, zsl, zso, zst, zsu, zti, ztk, ztr, ztu, zup, zwe, zwl, zwo, zto, rfl, rfl, hset, hcli, hsrv, hrt, hfnd, hreq, hrun, hqs, htot⟩ := hR
  rcases px_6 v1 with h | ⟨s, hs, rfl⟩
  · refine ⟨-1, fun P hP => ?_, fun P hP => ?_⟩
    · unfold wpX_home; exact rd_co h (br_t rfl hP)
    · unfold wpY_home; exact rd_yo6 h (br_t rfl hP)
  · have hi : vp_in (nI s) 6 := vp_in_nI hs (by decide)
    refine ⟨zho (nI s).toNatClampNeg, fun P hP => ?_, fun P hP => ?_⟩
    · unfold wpX_home; exact rd_c1 hs (br_f rd_1n0 ⟨hi, hP⟩)
    · unfold wpY_home; exact rd_y6 hs (br_f rd_1n0 ⟨hi, hP⟩)
theorem i_vc_home {k : Nat} {u : SX} {v : SY} (I : i_Rel k u v) (hk : k + 6 ≤ 3072) (v1 : Int32) : wpX_home (fun r => wpY_home (fun r' => r' = r ∧ i_Rel (k + 6) u v) v v1) u v1 := by
  obtain ⟨r, hX, hY⟩ := pu_home I v1
  exact hX _ (hY _ ⟨rfl, i_up I⟩)
theorem pu_total {k : Nat} {u : SX} {v : SY} (I : i_Rel k u v) (v1 : Int32) : ∃ r, (∀ P : Int64 → Prop, P r → wpX_total P u v1) ∧ (∀ P : Int64 → Prop, P r → wpY_total P v v1) := by
  obtain ⟨now, nx, dn, w, h1, h2, h3, hR⟩ := I
  obtain ⟨rc, qn, zae, zal, zan, zat, zbr, zca, zcl, zcm, zcr, zen, zfa, zfi, zho, zhs, zky, zpa, zpt, zqx, zqy, zra, zre, zrp, zrs, zru, zse, zsi, zsl, zso, zst, zsu, zti, ztk, ztr, ztu, zup, zwe, zwl, zwo, zto, rfl, rfl, hset, hcli, hsrv, hrt, hfnd, hreq, hrun, hqs, htot⟩ := hR
  rcases pk_ix v1 (n := 7) (by decide) with h | h | ⟨j, hj, rfl⟩
  · refine ⟨-1, fun P hP => br_t h hP, fun P hP => ?_⟩
    unfold wpY_total; exact rd_y0 (Or.inl h) (br_t rfl hP)
  · obtain ⟨ha, hb⟩ := px_hi (n := 6) (by decide) h
    refine ⟨-1, fun P hP => br_f hb (br_f (Int32.not_lt.mpr h) hP), fun P hP => ?_⟩
    unfold wpY_total; exact rd_y0 (Or.inr ha) (br_t rfl hP)
  · have hi : vp_in (nI j) 7 := vp_in_nI hj (by decide)
    refine ⟨zto (nI j).toNatClampNeg, fun P hP => br_f (nI_pos (by omega)) (br_t (nI_lt (b := 7) hj (by decide)) ⟨hi, hP⟩), fun P hP => ?_⟩
    unfold wpY_total; exact rd_yn (a := 0) (b := 6) (by omega) (by omega) (by decide) (br_f rd_1n0 ⟨hi, hP⟩)
theorem i_vc_total {k : Nat} {u : SX} {v : SY} (I : i_Rel k u v) (hk : k + 6 ≤ 3072) (v1 : Int32) : wpX_total (fun r => wpY_total (fun r' => r' = r ∧ i_Rel (k + 6) u v) v v1) u v1 := by
  obtain ⟨r, hX, hY⟩ := pu_total I v1
  exact hX _ (hY _ ⟨rfl, i_up I⟩)
theorem qd_lt {q j : Nat} (hq : q < 2 ^ 30) (hj : j < 2 ^ 31) : nI q - 1 < nI j ↔ q ≤ j := by
  rw [Int32.lt_iff_toInt_lt, show (1 : Int32) = nI 1 from rfl, pk_sub_toInt hq (by decide), nI_toInt hj]
  omega
theorem pu_queued {k : Nat} {u : SX} {v : SY} (I : i_Rel k u v) (v1 : Int32) : ∃ r, (∀ P : Int32 → Prop, P r → wpX_queued P u v1) ∧ (∀ P : Int32 → Prop, P r → wpY_queued P v v1) := by
  obtain ⟨now, nx, dn, w, h1, h2, h3, hR⟩ := I
  obtain ⟨rc, qn, zae, zal, zan, zat, zbr, zca, zcl, zcm, zcr, zen, zfa, zfi, zho, zhs, zky, zpa, zpt, zqx, zqy, zra, zre, zrp, zrs, zru, zse, zsi, zsl, zso, zst, zsu, zti, ztk, ztr, ztu, zup, zwe, zwl, zwo, zto, rfl, rfl, hset, hcli, hsrv, hrt, hfnd, hreq, hrun, hqs, htot⟩ := hR
  have hw : w ≤ 8 := hqs.2.2.1
  by_cases m : v1 = -1
  · exact ⟨nI w, fun P hP => br_t m hP, fun P hP => br_t m hP⟩
  by_cases h : v1 < 0
  · exact ⟨-1, fun P hP => br_f m (br_t h hP), fun P hP => br_f m (rd_y0 (Or.inl h) (br_t rfl hP))⟩
  obtain ⟨j, hj, rfl⟩ := nI_of h
  by_cases z : j < w
  · have h8 : vp_in (nI j) 8 := vp_in_nI (by omega) (by decide)
    have h9 : vp_in (nI j) 9 := vp_in_nI (by omega) (by decide)
    have ej : (nI j).toNatClampNeg = j := nI_clamp (by omega)
    have e : zqy (nI j).toNatClampNeg = zqx (nI j).toNatClampNeg := by rw [ej]; exact hqs.2.2.2.1 j (by omega)
    exact ⟨zqx (nI j).toNatClampNeg, fun P hP => br_f m (br_f h (br_t (nI_lt z (by omega)) ⟨h8, hP⟩)), fun P hP => br_f m (rd_y1 h (fun y => by have := (qd_lt (by omega) hj).mp y; omega) (br_f rd_1n0 ⟨h9, by rw [e]; exact hP⟩))⟩
  · exact ⟨-1, fun P hP => br_f m (br_f h (br_f (nI_nlt (by omega) hj) hP)), fun P hP => br_f m (rd_y0 (Or.inr ((qd_lt (by omega) hj).mpr (by omega))) (br_t rfl hP))⟩
theorem i_vc_queued {k : Nat} {u : SX} {v : SY} (I : i_Rel k u v) (hk : k + 6 ≤ 3072) (v1 : Int32) : wpX_queued (fun r => wpY_queued (fun r' => r' = r ∧ i_Rel (k + 6) u v) v v1) u v1 := by
  obtain ⟨r, hX, hY⟩ := pu_queued I v1
  exact hX _ (hY _ ⟨rfl, i_up I⟩)
