/-! a unit, and advance -/
def xx_C (P : SX → Prop) (u : SX) : Prop := match u with
  | (g_now, g_routeCount, g_queueLength, g_settings, g_totals, g_tookUnits, g_weightOf, g_slotsOf, g_paceOf, g_isBroken, g_isUp, g_shutTill, g_failures, g_credit, g_running, g_succeeded, g_findings, g_routePath, g_routeServers, g_capacityOf, g_refillOf, g_tokenCount, g_homeServer, g_homeSince, g_stateOf, g_clientOf, g_pathOf, g_keyOf, g_workOf, g_rankOf, g_cameAt, g_endedAt, g_serverOf, g_attempts, g_triedServers, g_attemptEnd, g_attemptTooLong, g_queue) => ¬ g_settings 4 = 0 ∧ ((((g_now - g_now / (g_settings 4) * (g_settings 4)) = 0 → (wpX_checkServers P (g_now, g_routeCount, g_queueLength, g_settings, g_totals, g_tookUnits, g_weightOf, g_slotsOf, g_paceOf, g_isBroken, g_isUp, g_shutTill, g_failures, g_credit, g_running, g_succeeded, g_findings, g_routePath, g_routeServers, g_capacityOf, g_refillOf, g_tokenCount, g_homeServer, g_homeSince, g_stateOf, g_clientOf, g_pathOf, g_keyOf, g_workOf, g_rankOf, g_cameAt, g_endedAt, g_serverOf, g_attempts, g_triedServers, g_attemptEnd, g_attemptTooLong, g_queue))) ∧ (¬ (g_now - g_now / (g_settings 4) * (g_settings 4)) = 0 → (P (g_now, g_routeCount, g_queueLength, g_settings, g_totals, g_tookUnits, g_weightOf, g_slotsOf, g_paceOf, g_isBroken, g_isUp, g_shutTill, g_failures, g_credit, g_running, g_succeeded, g_findings, g_routePath, g_routeServers, g_capacityOf, g_refillOf, g_tokenCount, g_homeServer, g_homeSince, g_stateOf, g_clientOf, g_pathOf, g_keyOf, g_workOf, g_rankOf, g_cameAt, g_endedAt, g_serverOf, g_attempts, g_triedServers, g_attemptEnd, g_attemptTooLong, g_queue)))))
theorem cc_pair {now nx dn B w : Nat} {u : SX} {v : SY} (hB : B < 2 ^ 30) (hR : md_R now nx dn B 0 0 w u v) :
    ∃ u' v', md_R now nx dn (B + 1) 0 0 w u' v' ∧ (∀ P : SX → Prop, P u' → xx_C P u) ∧ (∀ P : SY → Prop, (∃ n168 : Nat, yy_W P n168 0 0 v') → ∃ n133 : Nat, yy_C P n133 0 v) := by
  obtain ⟨rc, qn, zae, zal, zan, zat, zbr, zca, zcl, zcm, zcr, zen, zfa, zfi, zho, zhs, zky, zpa, zpt, zqx, zqy, zra, zre, zrp, zrs, zru, zse, zsi, zsl, zso, zst, zsu, zti, ztk, ztr, ztu, zup, zwe, zwl, zwo, zto, rfl, rfl, hset, hcli, hsrv, hrt, hfnd, hreq, hrun, hqs, htot⟩ := hR
  have l66 : (6 : Int32) ≤ nI 6 := by decide
  by_cases z : nI now - nI now / zse 4 * zse 4 = 0
  · obtain ⟨fi', si', wl', up', hf, X1, Y1⟩ := cs_loop now rc w nx zae zal zan zat zbr zca zcl zcm zcr zen zfa zho zhs zky zpa zpt zqx zqy zra zre zrp zrs zru zse zsl zso zst zsu zst zti ztk ztr ztu zwe zwo zto hB hset.1 z 6 0 rfl zfi zsi zwl zup (iv_fnd_le hfnd (by omega)) (fun j _ hj => hfnd j hj)
    have hR' : md_R now nx dn (B + 1) 0 0 w (nI now, nI rc, nI w, zse, zto, ztu, zwe, zsl, zpa, zbr, up', zti, zfa, zcr, zru, zsu, fi', zrp, zrs, zca, zre, ztk, zho, zhs, zst, zcl, zpt, zky, zwo, zra, zcm, zen, zat, zan, ztr, zae, zal, zqx) (nI now, nI rc, nI nx, nI w, zwe, zsl, zpa, zti, zfa, zcr, zsu, si', wl', zbr, up', zrp, zrs, zse, zca, zre, ztk, zho, zhs, zcl, zpt, zky, zwo, zra, zst, zat, zan, ztr, zcm, zen, zae, zal, zqy, zto, ztu, zso) := md_mk hset hcli hsrv hrt hf hreq hrun hqs htot
    exact ⟨_, _, hR', fun P hp => ⟨hset.1, br_t z ⟨7, X1 P 7 (by omega) hp⟩⟩, fun P hp => ⟨7, Y1 P 7 (by omega) (br_t l66 hp)⟩⟩
  · have hR' : md_R now nx dn (B + 1) 0 0 w (nI now, nI rc, nI w, zse, zto, ztu, zwe, zsl, zpa, zbr, zup, zti, zfa, zcr, zru, zsu, zfi, zrp, zrs, zca, zre, ztk, zho, zhs, zst, zcl, zpt, zky, zwo, zra, zcm, zen, zat, zan, ztr, zae, zal, zqx) (nI now, nI rc, nI nx, nI w, zwe, zsl, zpa, zti, zfa, zcr, zsu, zsi, zwl, zbr, zup, zrp, zrs, zse, zca, zre, ztk, zho, zhs, zcl, zpt, zky, zwo, zra, zst, zat, zan, ztr, zcm, zen, zae, zal, zqy, zto, ztu, zso) := md_mk hset hcli hsrv hrt (iv_fnd_le hfnd (by omega)) hreq hrun hqs htot
    exact ⟨_, _, hR', fun P hp => ⟨hset.1, br_f z hp⟩, fun P hp => ⟨1, br_f (show ¬ (6 : Int32) ≤ 0 by decide) ⟨hset.1, br_f z hp⟩⟩⟩
theorem eq_pair {now nx dn B w : Nat} {u : SX} {v : SY} (hnx : nx < 2 ^ 30) (hR : md_R now nx dn B 0 0 w u v) :
    ∃ u' v' w', md_R now nx dn B 0 0 w' u' v' ∧ (∀ P : SX → Prop, P u' → wpX_expireQueued P u) ∧ (∀ P : SY → Prop, (∃ n245 : Nat, yy_S P n245 0 0 v') → ∃ n168 : Nat, yy_W P n168 0 0 v) := by
  obtain ⟨u', v', w', hR', X1, Y1⟩ := xw_loop (dn := dn) hnx w 0 (by omega) 0 dn u v hR
  obtain ⟨g_now, g_routeCount, g_queueLength, g_settings, g_totals, g_tookUnits, g_weightOf, g_slotsOf, g_paceOf, g_isBroken, g_isUp, g_shutTill, g_failures, g_credit, g_running, g_succeeded, g_findings, g_routePath, g_routeServers, g_capacityOf, g_refillOf, g_tokenCount, g_homeServer, g_homeSince, g_stateOf, g_clientOf, g_pathOf, g_keyOf, g_workOf, g_rankOf, g_cameAt, g_endedAt, g_serverOf, g_attempts, g_triedServers, g_attemptEnd, g_attemptTooLong, g_queue⟩ := u
  exact ⟨u', v', w', hR', fun P hp => ⟨w + 1, X1 P (w + 1) (by omega) hp⟩, fun P hp => ⟨w + 1, Y1 P (w + 1) (by omega) hp⟩⟩
theorem sq_pair {now nx dn B w : Nat} {u : SX} {v : SY} (hnx : nx < 2 ^ 30) (hR : md_R now nx dn B 0 0 w u v) :
    ∃ u' v' w', md_R now nx dn B 0 0 w' u' v' ∧ (∀ P : SX → Prop, P u' → wpX_startQueued P u) ∧ (∀ P : SY → Prop, P v' → ∃ n245 : Nat, yy_S P n245 0 0 v) := by
  obtain ⟨u', v', w', hR', X1, Y1⟩ := xs_loop hnx w 0 (by omega) 0 dn u v hR
  obtain ⟨g_now, g_routeCount, g_queueLength, g_settings, g_totals, g_tookUnits, g_weightOf, g_slotsOf, g_paceOf, g_isBroken, g_isUp, g_shutTill, g_failures, g_credit, g_running, g_succeeded, g_findings, g_routePath, g_routeServers, g_capacityOf, g_refillOf, g_tokenCount, g_homeServer, g_homeSince, g_stateOf, g_clientOf, g_pathOf, g_keyOf, g_workOf, g_rankOf, g_cameAt, g_endedAt, g_serverOf, g_attempts, g_triedServers, g_attemptEnd, g_attemptTooLong, g_queue⟩ := u
  exact ⟨u', v', w', hR', fun P hp => ⟨w + 1, X1 P (w + 1) (by omega) hp⟩, fun P hp => ⟨w + 1, Y1 P (w + 1) (by omega) hp⟩⟩
theorem md_nxt {now nx dn B w : Nat} {u : SX} {v : SY} (hR : md_R now nx dn B 0 0 w u v) (P : SY → Prop) (h : ∃ n133 : Nat, yy_C P n133 0 v) : yy_E P 1 (nI nx) v := by
  obtain ⟨rc, qn, zae, zal, zan, zat, zbr, zca, zcl, zcm, zcr, zen, zfa, zfi, zho, zhs, zky, zpa, zpt, zqx, zqy, zra, zre, zrp, zrs, zru, zse, zsi, zsl, zso, zst, zsu, zti, ztk, ztr, ztu, zup, zwe, zwl, zwo, zto, rfl, rfl, _⟩ := hR
  exact br_t (show nI nx ≤ nI nx from Int32.le_rfl) h
theorem ad_loop {nx N : Nat} (x2 : Int64) (hnx : nx < 2 ^ 30) (hN : N < 2 ^ 30) : ∀ d i : Nat, i + d = N → ∀ (now dn w : Nat) (u : SX) (v : SY), now + d < 2 ^ 29 → dn + 32 * d < 2 ^ 30 → md_R now nx dn now 0 0 w u v →
    ∃ u' v' dn' w', dn' ≤ dn + 32 * d ∧ md_R (now + d) nx dn' (now + d) 0 0 w' u' v' ∧ (∀ (P : Int32 → SX → Prop) (n : Nat), d < n → xx_A P (nI N) x2 1 (nI N) u' → xx_A P (nI N) x2 n (nI i) u) ∧ (∀ (P : Int32 → SY → Prop) (n : Nat), d < n → yy_A P (nI N) x2 1 (nI N) v' → yy_A P (nI N) x2 n (nI i) v) := by
  intro d
  induction d with
  | zero =>
    intro i hi now dn w u v hnow hdn hR
    have e : i = N := by omega
    subst e
    have le : nI i ≤ nI i := Int32.le_rfl
    refine ⟨u, v, dn, w, by omega, hR, fun P n hn hp => ?_, fun P n hn hp => ?_⟩
    · obtain ⟨m, rfl, hm⟩ := fu_m hn
      obtain ⟨g_now, g_routeCount, g_queueLength, g_settings, g_totals, g_tookUnits, g_weightOf, g_slotsOf, g_paceOf, g_isBroken, g_isUp, g_shutTill, g_failures, g_credit, g_running, g_succeeded, g_findings, g_routePath, g_routeServers, g_capacityOf, g_refillOf, g_tokenCount, g_homeServer, g_homeSince, g_stateOf, g_clientOf, g_pathOf, g_keyOf, g_workOf, g_rankOf, g_cameAt, g_endedAt, g_serverOf, g_attempts, g_triedServers, g_attemptEnd, g_attemptTooLong, g_queue⟩ := u
      exact br_t le (ex_t le hp)
    · obtain ⟨m, rfl, hm⟩ := fu_m hn
      obtain ⟨g_time, g_routes, g_next, g_waiting, g_weight, g_slots, g_pace, g_till, g_failures, g_credit, g_successes, g_sick, g_well, g_broken, g_up, g_routePath, g_routeServers, g_setting, g_capacity, g_refill, g_tokens, g_home, g_homeTime, g_client, g_path, g_key, g_work, g_rank, g_state, g_at, g_attempts, g_tried, g_came, g_ended, g_ends, g_late, g_queue, g_total, g_took, g_sorted⟩ := v
      exact br_t le (ex_t le hp)
  | succ d ih =>
    intro i hi now dn w u v hnow hdn hR
    obtain ⟨rc, qn, zae, zal, zan, zat, zbr, zca, zcl, zcm, zcr, zen, zfa, zfi, zho, zhs, zky, zpa, zpt, zqx, zqy, zra, zre, zrp, zrs, zru, zse, zsi, zsl, zso, zst, zsu, zti, ztk, ztr, ztu, zup, zwe, zwl, zwo, zto, rfl, rfl, hset, hcli, hsrv, hrt, hfnd, hreq, hrun, hqs, htot⟩ := hR
    have l66 : (6 : Int32) ≤ nI 6 := by decide
    have hle : ¬ nI N ≤ nI i := nI_ge (by omega) (by omega)
    obtain ⟨tk', tX, tY⟩ := tb_loop (now + 1) rc w nx zae zal zan zat zbr zca zcl zcm zcr zen zfa zfi zho zhs zky zpa zpt zqx zqy zra zre zrp zrs zru zse zsi zsl zso zst zsu zst zti ztr ztu zup zwe zwl zwo zto (fun c hc => (hcli c hc).1) 6 0 rfl ztk
    have hR1 : md_R (now + 1) nx dn now 0 0 w (nI (now + 1), nI rc, nI w, zse, zto, ztu, zwe, zsl, zpa, zbr, zup, zti, zfa, zcr, zru, zsu, zfi, zrp, zrs, zca, zre, tk', zho, zhs, zst, zcl, zpt, zky, zwo, zra, zcm, zen, zat, zan, ztr, zae, zal, zqx) (nI (now + 1), nI rc, nI nx, nI w, zwe, zsl, zpa, zti, zfa, zcr, zsu, zsi, zwl, zbr, zup, zrp, zrs, zse, zca, zre, tk', zho, zhs, zcl, zpt, zky, zwo, zra, zst, zat, zan, ztr, zcm, zen, zae, zal, zqy, zto, ztu, zso) := md_mk hset hcli hsrv hrt hfnd hreq hrun hqs htot
    obtain ⟨u2, v2, dn2, hd2, hR2, eX, eY⟩ := ea_pair (by omega) hnx (by omega) hR1
    have nY := md_nxt hR2
    obtain ⟨u3, v3, hR3, cX, cY⟩ := cc_pair (by omega) hR2
    obtain ⟨u4, v4, w4, hR4, qX, qY⟩ := eq_pair hnx hR3
    obtain ⟨u5, v5, w5, hR5, sX, sY⟩ := sq_pair hnx hR4
    obtain ⟨u6, v6, dn6, w6, hd6, hR6, X6, Y6⟩ := ih (i + 1) (by omega) (now + 1) dn2 w5 u5 v5 (by omega) (by omega) hR5
    rw [show now + 1 + d = now + (d + 1) from by omega] at hR6
    refine ⟨u6, v6, dn6, w6, by omega, hR6, fun P n hn hp => ?_, fun P n hn hp => ?_⟩
    · obtain ⟨m, rfl, hm⟩ := fu_m hn
      have k := X6 P m (by omega) hp
      clear hR1 hR2 hR3 hR4 hR5 hR6 X6 Y6 hp nY eY cY qY sY tY
      obtain ⟨g_now, g_routeCount, g_queueLength, g_settings, g_totals, g_tookUnits, g_weightOf, g_slotsOf, g_paceOf, g_isBroken, g_isUp, g_shutTill, g_failures, g_credit, g_running, g_succeeded, g_findings, g_routePath, g_routeServers, g_capacityOf, g_refillOf, g_tokenCount, g_homeServer, g_homeSince, g_stateOf, g_clientOf, g_pathOf, g_keyOf, g_workOf, g_rankOf, g_cameAt, g_endedAt, g_serverOf, g_attempts, g_triedServers, g_attemptEnd, g_attemptTooLong, g_queue⟩ := u2
      obtain ⟨g_now, g_routeCount, g_queueLength, g_settings, g_totals, g_tookUnits, g_weightOf, g_slotsOf, g_paceOf, g_isBroken, g_isUp, g_shutTill, g_failures, g_credit, g_running, g_succeeded, g_findings, g_routePath, g_routeServers, g_capacityOf, g_refillOf, g_tokenCount, g_homeServer, g_homeSince, g_stateOf, g_clientOf, g_pathOf, g_keyOf, g_workOf, g_rankOf, g_cameAt, g_endedAt, g_serverOf, g_attempts, g_triedServers, g_attemptEnd, g_attemptTooLong, g_queue⟩ := u3
      obtain ⟨g_now, g_routeCount, g_queueLength, g_settings, g_totals, g_tookUnits, g_weightOf, g_slotsOf, g_paceOf, g_isBroken, g_isUp, g_shutTill, g_failures, g_credit, g_running, g_succeeded, g_findings, g_routePath, g_routeServers, g_capacityOf, g_refillOf, g_tokenCount, g_homeServer, g_homeSince, g_stateOf, g_clientOf, g_pathOf, g_keyOf, g_workOf, g_rankOf, g_cameAt, g_endedAt, g_serverOf, g_attempts, g_triedServers, g_attemptEnd, g_attemptTooLong, g_queue⟩ := u4
      obtain ⟨g_now, g_routeCount, g_queueLength, g_settings, g_totals, g_tookUnits, g_weightOf, g_slotsOf, g_paceOf, g_isBroken, g_isUp, g_shutTill, g_failures, g_credit, g_running, g_succeeded, g_findings, g_routePath, g_routeServers, g_capacityOf, g_refillOf, g_tokenCount, g_homeServer, g_homeSince, g_stateOf, g_clientOf, g_pathOf, g_keyOf, g_workOf, g_rankOf, g_cameAt, g_endedAt, g_serverOf, g_attempts, g_triedServers, g_attemptEnd, g_attemptTooLong, g_queue⟩ := u5
      exact br_f hle (nm_r (nI_1 now) ⟨7, tX _ 7 (by omega) (eX _ (cX _ (qX _ (sX _ (nm_r (nI_1 i) k)))))⟩)
    · obtain ⟨m, rfl, hm⟩ := fu_m hn
      have k := Y6 P m (by omega) hp
      clear hR1 hR2 hR3 hR4 hR5 hR6 X6 Y6 hp eX cX qX sX tX
      obtain ⟨g_time, g_routes, g_next, g_waiting, g_weight, g_slots, g_pace, g_till, g_failures, g_credit, g_successes, g_sick, g_well, g_broken, g_up, g_routePath, g_routeServers, g_setting, g_capacity, g_refill, g_tokens, g_home, g_homeTime, g_client, g_path, g_key, g_work, g_rank, g_state, g_at, g_attempts, g_tried, g_came, g_ended, g_ends, g_late, g_queue, g_total, g_took, g_sorted⟩ := v5
      exact br_f hle (nm_r (nI_1 now) ⟨7, tY _ 7 (by omega) (br_t l66 (eY _ (nY _ (cY _ (qY _ (sY _ (nm_r (nI_1 i) k)))))))⟩)
theorem av_lt {v : Int32} (h : nI 5001 ≤ v) : 5000 < v := by
  rw [Int32.le_iff_toInt_le, show (nI 5001).toInt = 5001 from by decide] at h
  rw [Int32.lt_iff_toInt_lt, show (5000 : Int32).toInt = 5000 from by decide]
  omega
theorem pu_advance {k : Nat} {u : SX} {v : SY} (I : i_Rel k u v) (hk : k + 6 ≤ 3072) (v1 : Int32) : ∃ r u' v', i_Rel (k + 6) u' v' ∧ (∀ P : Int32 → SX → Prop, P r u' → wpX_advance P u v1) ∧ (∀ P : Int32 → SY → Prop, P r v' → wpY_advance P v v1) := by
  have I' := i_up I
  obtain ⟨now, nx, dn, w, h1, h2, h3, hR⟩ := I
  rcases pk_ix v1 (n := 5001) (by decide) with h | h | ⟨N, hN, rfl⟩
  · obtain ⟨rc, qn, zae, zal, zan, zat, zbr, zca, zcl, zcm, zcr, zen, zfa, zfi, zho, zhs, zky, zpa, zpt, zqx, zqy, zra, zre, zrp, zrs, zru, zse, zsi, zsl, zso, zst, zsu, zti, ztk, ztr, ztu, zup, zwe, zwl, zwo, zto, rfl, rfl, _⟩ := hR
    refine ⟨_, _, _, I', fun P hP => br_t h hP, fun P hP => ?_⟩
    unfold wpY_advance
    exact rd_y0 (Or.inl h) (br_t rfl hP)
  · have h' := av_lt h
    have h0 : ¬ v1 < 0 := fun z => Int32.lt_irrefl (Int32.lt_trans (Int32.lt_trans z (by decide : (0 : Int32) < 5000)) h')
    obtain ⟨rc, qn, zae, zal, zan, zat, zbr, zca, zcl, zcm, zcr, zen, zfa, zfi, zho, zhs, zky, zpa, zpt, zqx, zqy, zra, zre, zrp, zrs, zru, zse, zsi, zsl, zso, zst, zsu, zti, ztk, ztr, ztu, zup, zwe, zwl, zwo, zto, rfl, rfl, _⟩ := hR
    refine ⟨_, _, _, I', fun P hP => br_f h0 (br_t h' hP), fun P hP => ?_⟩
    unfold wpY_advance
    exact rd_y0 (Or.inr h') (br_t rfl hP)
  · have hR0 := hR
    obtain ⟨rc, qn, zae, zal, zan, zat, zbr, zca, zcl, zcm, zcr, zen, zfa, zfi, zho, zhs, zky, zpa, zpt, zqx, zqy, zra, zre, zrp, zrs, zru, zse, zsi, zsl, zso, zst, zsu, zti, ztk, ztr, ztu, zup, zwe, zwl, zwo, zto, rfl, rfl, _⟩ := hR
    obtain ⟨u', v', dn', w', hd, hR', X, Y⟩ := ad_loop (nx := nx) (N := N) ((zto 2 + zto 3) + zto 4) (by omega) (by omega) N 0 (by omega) now dn w _ _ (by omega) (by omega) hR0
    have hI : i_Rel (k + 6) u' v' := ⟨now + N, nx, dn', w', by omega, by omega, by omega, hR'⟩
    obtain ⟨rc', qn', zae, zal, zan, zat, zbr, zca, zcl, zcm, zcr, zen, zfa, zfi, zho, zhs, zky, zpa, zpt, zqx, zqy, zra, zre, zrp, zrs, zru, zse, zsi, zsl, zso, zst, zsu, zti, ztk, ztr, ztu, zup, zwe, zwl, zwo, zto, rfl, rfl, _⟩ := hR'
    have e1 : (1000000000 : Int32) - nI now = nI (1000000000 - now) := pk_sub (a := 1000000000) (by omega)
    have c1 : nI N ≤ 1000000000 - nI now := by rw [e1]; exact nI_le (by omega) (by omega)
    have c2 : nI now + nI N ≤ 1000000000 := by rw [nI_add]; exact nI_le (b := 1000000000) (by omega) (by decide)
    have le : nI N ≤ nI N := Int32.le_rfl
    refine ⟨_, _, _, hI, fun P hP => br_f (nI_pos (by omega)) (br_f (nI_nlt (b := N) (a := 5000) (by omega) (by decide)) (br_t c1 (nm_e ⟨N + 1, X P (N + 1) (by omega) (br_t le hP)⟩))), fun P hP => ?_⟩
    unfold wpY_advance
    exact rd_yn (a := 0) (b := 5000) (by omega) (by omega) (by decide) (br_f rd_1n0 (br_t c2 (nm_e ⟨N + 1, Y P (N + 1) (by omega) (br_t le hP)⟩)))
theorem i_vc_advance {k : Nat} {u : SX} {v : SY} (I : i_Rel k u v) (hk : k + 6 ≤ 3072) (v1 : Int32) : wpX_advance (fun r u' => wpY_advance (fun r' v' => r' = r ∧ i_Rel (k + 6) u' v') v v1) u v1 := by
  obtain ⟨r, u', v', hI, hX, hY⟩ := pu_advance I hk v1
  exact hX _ (hY _ ⟨rfl, hI⟩)
