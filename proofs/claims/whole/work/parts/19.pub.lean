/-! the public methods: arrive, and those that change a setting -/
theorem px_hi {n : Nat} {v : Int32} (hn : n + 1 < 2 ^ 31) (h : nI (n + 1) ≤ v) : nI n < v ∧ ¬ v < 0 := by
  rw [Int32.le_iff_toInt_le, nI_toInt hn] at h
  rw [Int32.lt_iff_toInt_lt, Int32.lt_iff_toInt_lt, nI_toInt (by omega), ms_i0]
  omega
theorem pu_arrive {k : Nat} {u : SX} {v : SY} (I : i_Rel k u v) (hk : k + 6 ≤ 3072) (v1 v2 v3 v4 v5 : Int32) : ∃ r u' v', i_Rel (k + 6) u' v' ∧ (∀ P : Int32 → SX → Prop, P r u' → wpX_arrive P u v1 v2 v3 v4 v5) ∧ (∀ P : Int32 → SY → Prop, P r v' → wpY_arrive P v v1 v2 v3 v4 v5) := by
  have I' := i_up I
  obtain ⟨now, nx, dn, w, h1, h2, h3, hR⟩ := I
  obtain ⟨rc, qn, zae, zal, zan, zat, zbr, zca, zcl, zcm, zcr, zen, zfa, zfi, zho, zhs, zky, zpa, zpt, zqx, zqy, zra, zre, zrp, zrs, zru, zse, zsi, zsl, zso, zst, zsu, zti, ztk, ztr, ztu, zup, zwe, zwl, zwo, zto, rfl, rfl, hset, hcli, hsrv, hrt, hfnd, hreq, hrun, hqs, htot⟩ := hR
  have c1 : (v1 < 0 ∨ nI 6 ≤ v1) ∨ ∃ c : Nat, c < 6 ∧ v1 = nI c := by
    rcases pk_ix v1 (n := 6) (by decide) with h | h | h
    · exact Or.inl (Or.inl h)
    · exact Or.inl (Or.inr h)
    · exact Or.inr h
  rcases c1 with h | ⟨c, hc, rfl⟩
  · refine ⟨-1, _, _, I', fun P hP => ?_, fun P hP => ?_⟩
    · unfold wpX_arrive; exact rd_co h (br_t rfl hP)
    · unfold wpY_arrive; exact rd_yo6 h (br_t rfl hP)
  have c2 : ((∀ P : Int32 → Prop, P 0 → wpX_isPath P v2) ∧ (∀ P : Int32 → Prop, P 0 → wpY_isPath P v2)) ∨ ∃ p : Nat, p < 4096 ∧ v2 = nI p ∧ (∀ P : Int32 → Prop, P 1 → wpX_isPath P v2) ∧ (∀ P : Int32 → Prop, P 1 → wpY_isPath P v2) := by
    rcases ip_pair v2 with ⟨p, hp, e, r, rfl | rfl, pX, pY⟩ | h
    · exact Or.inl ⟨pX, pY⟩
    · exact Or.inr ⟨p, hp, e, pX, pY⟩
    · exact Or.inl h
  rcases c2 with ⟨pX, pY⟩ | ⟨p, hp, rfl, pX, pY⟩
  · refine ⟨-1, _, _, I', fun P hP => ?_, fun P hP => ?_⟩
    · unfold wpX_arrive; exact rd_c1 hc (br_f rd_1n0 (pX _ (br_t rfl hP)))
    · unfold wpY_arrive; exact rd_y6 hc (br_f rd_1n0 (pY _ (br_t rfl hP)))
  rcases pk_ix v3 (n := 256) (by decide) with h | h | ⟨key, hkey, rfl⟩
  · refine ⟨-1, _, _, I', fun P hP => ?_, fun P hP => ?_⟩
    · unfold wpX_arrive; exact rd_c1 hc (br_f rd_1n0 (pX _ (br_f rd_1n0 (br_t h hP))))
    · unfold wpY_arrive; exact rd_y6 hc (br_f rd_1n0 (pY _ (br_f rd_1n0 (rd_y0 (Or.inl h) (br_t rfl hP)))))
  · obtain ⟨ha, hb⟩ := px_hi (n := 255) (by decide) h
    refine ⟨-1, _, _, I', fun P hP => ?_, fun P hP => ?_⟩
    · unfold wpX_arrive; exact rd_c1 hc (br_f rd_1n0 (pX _ (br_f rd_1n0 (br_f hb (br_t ha hP)))))
    · unfold wpY_arrive; exact rd_y6 hc (br_f rd_1n0 (pY _ (br_f rd_1n0 (rd_y0 (Or.inr ha) (br_t rfl hP)))))
  have k0 : ¬ nI key < 0 := nI_pos (by omega)
  have k1 : ¬ 255 < nI key := nI_nlt (a := 255) (by omega) (by decide)
  by_cases w0 : v4 < 1
  · refine ⟨-1, _, _, I', fun P hP => ?_, fun P hP => ?_⟩
    · unfold wpX_arrive; exact rd_c1 hc (br_f rd_1n0 (pX _ (br_f rd_1n0 (br_f k0 (br_f k1 (br_t w0 hP))))))
    · unfold wpY_arrive; exact rd_y6 hc (br_f rd_1n0 (pY _ (br_f rd_1n0 (rd_y1 k0 k1 (br_f rd_1n0 (rd_y0 (Or.inl w0) (br_t rfl hP)))))))
  by_cases w1 : 100 < v4
  · refine ⟨-1, _, _, I', fun P hP => ?_, fun P hP => ?_⟩
    · unfold wpX_arrive; exact rd_c1 hc (br_f rd_1n0 (pX _ (br_f rd_1n0 (br_f k0 (br_f k1 (br_f w0 (br_t w1 hP)))))))
    · unfold wpY_arrive; exact rd_y6 hc (br_f rd_1n0 (pY _ (br_f rd_1n0 (rd_y1 k0 k1 (br_f rd_1n0 (rd_y0 (Or.inr w1) (br_t rfl hP)))))))
  by_cases r0 : v5 < 0
  · refine ⟨-1, _, _, I', fun P hP => ?_, fun P hP => ?_⟩
    · unfold wpX_arrive; exact rd_c1 hc (br_f rd_1n0 (pX _ (br_f rd_1n0 (br_f k0 (br_f k1 (br_f w0 (br_f w1 (br_t r0 hP))))))))
    · unfold wpY_arrive; exact rd_y6 hc (br_f rd_1n0 (pY _ (br_f rd_1n0 (rd_y1 k0 k1 (br_f rd_1n0 (rd_y1 w0 w1 (br_f rd_1n0 (rd_y0 (Or.inl r0) (br_t rfl hP)))))))))
  by_cases r1 : v5 ≤ 3
  · have r1' : ¬ 3 < v5 := Int32.not_lt.mpr r1
    have hq : nx % 32 < 32 := Nat.mod_lt _ (by decide)
    have hqi : vp_in (nI (nx % 32)) 32 := vp_in_nI hq (by decide)
    have eq : (nI (nx % 32)).toNatClampNeg = nx % 32 := nI_clamp (by omega)
    have ent : (zto 0).toInt32 = nI nx := by rw [htot.1, lN_i]
    have esl : nI nx &&& 31 = nI (nx % 32) := ms_slot (by omega)
    have erm : nI nx - nI nx / 32 * 32 = nI (nx % 32) := ms_rem (by omega)
    have h0 : ¬ (32 : Int32) = 0 := by decide
    have x32 : zto 0 < 32 ↔ nx < 32 := by rw [htot.1]; exact pk_lLT (b := 32) (by omega) (by decide)
    have y31 : nI nx ≤ 31 ↔ nx < 32 := by rw [show (31 : Int32) = nI 31 from rfl, nI_leI (by omega) (by decide)]; omega
    by_cases hfull : nx < 32 ∨ 1 < zst (nx % 32)
    · obtain ⟨r, u', v', nx', w', hn', hR', aX, aY⟩ := an_pair now rc w nx zae zal zan zat zbr zca zcl zcm zcr zen zfa zfi zho zhs zky zpa zpt zqx zqy zra zre zrp zrs zru zse zsi zsl zso zst zsu zti ztk ztr ztu zup zwe zwl zwo zto (v4 := v4) (v5 := v5) hset hcli hsrv hrt hfnd hreq hrun hqs htot (by omega) hq rfl hfull hc hp hkey
      have hI : i_Rel (k + 6) u' v' := ⟨now, nx', dn, w', by omega, by omega, h3, hR'⟩
      refine ⟨r, u', v', hI, fun P hP => ?_, fun P hP => ?_⟩
      · unfold wpX_arrive
        refine rd_c1 hc (br_f rd_1n0 (pX _ (br_f rd_1n0 (br_f k0 (br_f k1 (br_f w0 (br_f w1 (br_f r0 (br_t r1 (nm_r ent (nm_r esl ?_)))))))))))
        by_cases z : nx < 32
        · exact br_t (x32.mpr z) (aX P hP)
        · refine br_f (fun y => z (x32.mp y)) ⟨hqi, ?_⟩
          rw [eq]
          exact br_t (hfull.resolve_left z) (aX P hP)
      · unfold wpY_arrive
        refine rd_y6 hc (br_f rd_1n0 (pY _ (br_f rd_1n0 (rd_y1 k0 k1 (br_f rd_1n0 (rd_y1 w0 w1 (br_f rd_1n0 (rd_y1 r0 r1' (br_f rd_1n0 ⟨h0, nm_r erm ?_⟩)))))))))
        by_cases z : nx < 32
        · exact br_t (y31.mpr z) (aY P hP)
        · refine br_f (fun y => z (y31.mp y)) ⟨hqi, ?_⟩
          rw [eq]
          exact br_t (Int32.not_lt.mp (fun y => absurd (hfull.resolve_left z) (Int32.not_lt.mpr (ms_lt2.mp y)))) (aY P hP)
    · have f1 : ¬ nx < 32 := fun z => hfull (Or.inl z)
      have f2 : ¬ 1 < zst (nx % 32) := fun z => hfull (Or.inr z)
      refine ⟨-2, _, _, I', fun P hP => ?_, fun P hP => ?_⟩
      · unfold wpX_arrive
        refine rd_c1 hc (br_f rd_1n0 (pX _ (br_f rd_1n0 (br_f k0 (br_f k1 (br_f w0 (br_f w1 (br_f r0 (br_t r1 (nm_r ent (nm_r esl (br_f (fun y => f1 (x32.mp y)) ⟨hqi, ?_⟩))))))))))))
        rw [eq]
        exact br_f f2 hP
      · unfold wpY_arrive
        refine rd_y6 hc (br_f rd_1n0 (pY _ (br_f rd_1n0 (rd_y1 k0 k1 (br_f rd_1n0 (rd_y1 w0 w1 (br_f rd_1n0 (rd_y1 r0 r1' (br_f rd_1n0 ⟨h0, nm_r erm (br_f (fun y => f1 (y31.mp y)) ⟨hqi, ?_⟩)⟩)))))))))
        rw [eq]
        exact br_f (Int32.not_le.mpr (ms_lt2.mpr (Int32.not_lt.mp f2))) hP
  · refine ⟨-1, _, _, I', fun P hP => ?_, fun P hP => ?_⟩
    · unfold wpX_arrive; exact rd_c1 hc (br_f rd_1n0 (pX _ (br_f rd_1n0 (br_f k0 (br_f k1 (br_f w0 (br_f w1 (br_f r0 (br_f r1 hP)))))))))
    · unfold wpY_arrive; exact rd_y6 hc (br_f rd_1n0 (pY _ (br_f rd_1n0 (rd_y1 k0 k1 (br_f rd_1n0 (rd_y1 w0 w1 (br_f rd_1n0 (rd_y0 (Or.inr (Int32.not_le.mp r1)) (br_t rfl hP)))))))))
theorem i_vc_arrive {k : Nat} {u : SX} {v : SY} (I : i_Rel k u v) (hk : k + 6 ≤ 3072) (v1 : Int32) (v2 : Int32) (v3 : Int32) (v4 : Int32) (v5 : Int32) : wpX_arrive (fun r u' => wpY_arrive (fun r' v' => r' = r ∧ i_Rel (k + 6) u' v') v v1 v2 v3 v4 v5) u v1 v2 v3 v4 v5 := by
  obtain ⟨r, u', v', hI, hX, hY⟩ := pu_arrive I hk v1 v2 v3 v4 v5
  exact hX _ (hY _ ⟨rfl, hI⟩)
