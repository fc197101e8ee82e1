/-! arrive -/
section
variable (now rc ql nx : Nat) (zae zal zan zat zbr zca zcl zcm zcr zen zfa zfi zho zhs zky zpa zpt zqx zqy zra zre zrp zrs zru zse zsi zsl zso zst zsu zsy zti ztk ztr ztu zup zwe zwl zwo : Nat → Int32) (zto : Nat → Int64)
theorem et_X {q c p key : Nat} {v4 v5 : Int32} (hq : q < 32) (P : SX → Prop) (hP : P (nI now, nI rc, nI ql, zse, zto, ztu, zwe, zsl, zpa, zbr, zup, zti, zfa, zcr, zru, zsu, zfi, zrp, zrs, zca, zre, ztk, zho, zhs, upd zst q 0, upd zcl q (nI c), upd zpt q (nI p), upd zky q (nI key), upd zwo q v4, upd zra q v5, upd zcm q (nI now), upd zen q (-1), upd zat q (-1), upd zan q 0, upd ztr q 0, zae, zal, zqx)) : wpX_enter P (nI now, nI rc, nI ql, zse, zto, ztu, zwe, zsl, zpa, zbr, zup, zti, zfa, zcr, zru, zsu, zfi, zrp, zrs, zca, zre, ztk, zho, zhs, zst, zcl, zpt, zky, zwo, zra, zcm, zen, zat, zan, ztr, zae, zal, zqx) (nI q) (nI c) (nI p) (nI key) v4 v5 := by
  have hqi : vp_in (nI q) 32 := vp_in_nI hq (by decide)
  have eq : (nI q).toNatClampNeg = q := nI_clamp (by omega)
  unfold wpX_enter
  rw [eq]
  exact ⟨hqi, nm_e ⟨hqi, nm_e ⟨hqi, nm_e ⟨hqi, nm_e ⟨hqi, nm_e ⟨hqi, nm_e ⟨hqi, nm_e ⟨hqi, nm_e ⟨hqi, nm_e ⟨hqi, nm_e ⟨hqi, nm_e hP⟩⟩⟩⟩⟩⟩⟩⟩⟩⟩⟩
end
theorem md_ny {now nx dn B w : Nat} {u : SX} {v : SY} (hR : md_R now (nx + 1) dn B 0 0 w u v) (P : Int32 → SY → Prop) (h : P (nI nx) v) : match v with | (g_time, g_routes, g_next, g_waiting, g_weight, g_slots, g_pace, g_till, g_failures, g_credit, g_successes, g_sick, g_well, g_broken, g_up, g_routePath, g_routeServers, g_setting, g_capacity, g_refill, g_tokens, g_home, g_homeTime, g_client, g_path, g_key, g_work, g_rank, g_state, g_at, g_attempts, g_tried, g_came, g_ended, g_ends, g_late, g_queue, g_total, g_took, g_sorted) => P (g_next - 1) (g_time, g_routes, g_next, g_waiting, g_weight, g_slots, g_pace, g_till, g_failures, g_credit, g_successes, g_sick, g_well, g_broken, g_up, g_routePath, g_routeServers, g_setting, g_capacity, g_refill, g_tokens, g_home, g_homeTime, g_client, g_path, g_key, g_work, g_rank, g_state, g_at, g_attempts, g_tried, g_came, g_ended, g_ends, g_late, g_queue, g_total, g_took, g_sorted) := by
  obtain ⟨rc, qn, zae, zal, zan, zat, zbr, zca, zcl, zcm, zcr, zen, zfa, zfi, zho, zhs, zky, zpa, zpt, zqx, zqy, zra, zre, zrp, zrs, zru, zse, zsi, zsl, zso, zst, zsu, zti, ztk, ztr, ztu, zup, zwe, zwl, zwo, zto, rfl, rfl, _⟩ := hR
  rw [← nI_pred] at h
  exact h
section
variable (now rc ql nx : Nat) (zae zal zan zat zbr zca zcl zcm zcr zen zfa zfi zho zhs zky zpa zpt zqx zqy zra zre zrp zrs zru zse zsi zsl zso zst zsu zsy zti ztk ztr ztu zup zwe zwl zwo : Nat → Int32) (zto : Nat → Int64)
theorem ah_pair {dn B q p : Nat} {qn : Nat → Nat} (hset : iv_set zse) (hcli : iv_cli zre zho) (hsrv : iv_srv zwe zti) (hrt : iv_rt rc zrs) (hfnd : iv_fnd B zfi zsi zwl) (hreq : iv_req zcl zky zpt zst zat) (hrun : iv_run (nx + 1) zst zat zru)
    (hqs : iv_q 0 0 ql nx qn zqx zqy zst) (htot : iv_tot (nx + 1) dn zto) (hnx : nx < 2 ^ 30) (hq : q < 32) (hqx : nx % 32 = q) (hst : zst q = 0) (hf : ∀ j, j < ql → qn j % 32 ≠ q) (hp : p < 4096) :
    ∃ u' v' w', md_R now (nx + 1) dn B 0 0 w' u' v' ∧
    (∀ P : Int32 → SX → Prop, P (nI nx) u' → wpX_routeOf (fun r => (((r = (-1) → (wpX_finish (fun u => match u with | (g_now, g_routeCount, g_queueLength, g_settings, g_totals, g_tookUnits, g_weightOf, g_slotsOf, g_paceOf, g_isBroken, g_isUp, g_shutTill, g_failures, g_credit, g_running, g_succeeded, g_findings, g_routePath, g_routeServers, g_capacityOf, g_refillOf, g_tokenCount, g_homeServer, g_homeSince, g_stateOf, g_clientOf, g_pathOf, g_keyOf, g_workOf, g_rankOf, g_cameAt, g_endedAt, g_serverOf, g_attempts, g_triedServers, g_attemptEnd, g_attemptTooLong, g_queue) => (P (nI nx) (g_now, g_routeCount, g_queueLength, g_settings, g_totals, g_tookUnits, g_weightOf, g_slotsOf, g_paceOf, g_isBroken, g_isUp, g_shutTill, g_failures, g_credit, g_running, g_succeeded, g_findings, g_routePath, g_routeServers, g_capacityOf, g_refillOf, g_tokenCount, g_homeServer, g_homeSince, g_stateOf, g_clientOf, g_pathOf, g_keyOf, g_workOf, g_rankOf, g_cameAt, g_endedAt, g_serverOf, g_attempts, g_triedServers, g_attemptEnd, g_attemptTooLong, g_queue))) (nI now, nI rc, nI ql, zse, zto, ztu, zwe, zsl, zpa, zbr, zup, zti, zfa, zcr, zru, zsu, zfi, zrp, zrs, zca, zre, ztk, zho, zhs, zst, zcl, zpt, zky, zwo, zra, zcm, zen, zat, zan, ztr, zae, zal, zqx) (nI q) 5)) ∧ (¬ r = (-1) → (wpX_attempt (fun r2 u => match u with | (g_now, g_routeCount, g_queueLength, g_settings, g_totals, g_tookUnits, g_weightOf, g_slotsOf, g_paceOf, g_isBroken, g_isUp, g_shutTill, g_failures, g_credit, g_running, g_succeeded, g_findings, g_routePath, g_routeServers, g_capacityOf, g_refillOf, g_tokenCount, g_homeServer, g_homeSince, g_stateOf, g_clientOf, g_pathOf, g_keyOf, g_workOf, g_rankOf, g_cameAt, g_endedAt, g_serverOf, g_attempts, g_triedServers, g_attemptEnd, g_attemptTooLong, g_queue) => (((r2 = 0 → (wpX_enqueue (fun u => match u with | (g_now, g_routeCount, g_queueLength, g_settings, g_totals, g_tookUnits, g_weightOf, g_slotsOf, g_paceOf, g_isBroken, g_isUp, g_shutTill, g_failures, g_credit, g_running, g_succeeded, g_findings, g_routePath, g_routeServers, g_capacityOf, g_refillOf, g_tokenCount, g_homeServer, g_homeSince, g_stateOf, g_clientOf, g_pathOf, g_keyOf, g_workOf, g_rankOf, g_cameAt, g_endedAt, g_serverOf, g_attempts, g_triedServers, g_attemptEnd, g_attemptTooLong, g_queue) => (P (nI nx) (g_now, g_routeCount, g_queueLength, g_settings, g_totals, g_tookUnits, g_weightOf, g_slotsOf, g_paceOf, g_isBroken, g_isUp, g_shutTill, g_failures, g_credit, g_running, g_succeeded, g_findings, g_routePath, g_routeServers, g_capacityOf, g_refillOf, g_tokenCount, g_homeServer, g_homeSince, g_stateOf, g_clientOf, g_pathOf, g_keyOf, g_workOf, g_rankOf, g_cameAt, g_endedAt, g_serverOf, g_attempts, g_triedServers, g_attemptEnd, g_attemptTooLong, g_queue))) (g_now, g_routeCount, g_queueLength, g_settings, g_totals, g_tookUnits, g_weightOf, g_slotsOf, g_paceOf, g_isBroken, g_isUp, g_shutTill, g_failures, g_credit, g_running, g_succeeded, g_findings, g_routePath, g_routeServers, g_capacityOf, g_refillOf, g_tokenCount, g_homeServer, g_homeSince, g_stateOf, g_clientOf, g_pathOf, g_keyOf, g_workOf, g_rankOf, g_cameAt, g_endedAt, g_serverOf, g_attempts, g_triedServers, g_attemptEnd, g_attemptTooLong, g_queue) (nI nx))) ∧ (¬ r2 = 0 → (P (nI nx) (g_now, g_routeCount, g_queueLength, g_settings, g_totals, g_tookUnits, g_weightOf, g_slotsOf, g_paceOf, g_isBroken, g_isUp, g_shutTill, g_failures, g_credit, g_running, g_succeeded, g_findings, g_routePath, g_routeServers, g_capacityOf, g_refillOf, g_tokenCount, g_homeServer, g_homeSince, g_stateOf, g_clientOf, g_pathOf, g_keyOf, g_workOf, g_rankOf, g_cameAt, g_endedAt, g_serverOf, g_attempts, g_triedServers, g_attemptEnd, g_attemptTooLong, g_queue)))))) (nI now, nI rc, nI ql, zse, zto, ztu, zwe, zsl, zpa, zbr, zup, zti, zfa, zcr, zru, zsu, zfi, zrp, zrs, zca, zre, ztk, zho, zhs, zst, zcl, zpt, zky, zwo, zra, zcm, zen, zat, zan, ztr, zae, zal, zqx) (nI q)))))) (nI now, nI rc, nI ql, zse, zto, ztu, zwe, zsl, zpa, zbr, zup, zti, zfa, zcr, zru, zsu, zfi, zrp, zrs, zca, zre, ztk, zho, zhs, zst, zcl, zpt, zky, zwo, zra, zcm, zen, zat, zan, ztr, zae, zal, zqx) (nI p)) ∧
    (∀ P : Int32 → SY → Prop, P (nI nx) v' → wpY_serversOf (fun r => (((0 ≤ r → (wpY_place (fun u => match u with | (g_time, g_routes, g_next, g_waiting, g_weight, g_slots, g_pace, g_till, g_failures, g_credit, g_successes, g_sick, g_well, g_broken, g_up, g_routePath, g_routeServers, g_setting, g_capacity, g_refill, g_tokens, g_home, g_homeTime, g_client, g_path, g_key, g_work, g_rank, g_state, g_at, g_attempts, g_tried, g_came, g_ended, g_ends, g_late, g_queue, g_total, g_took, g_sorted) => (P (g_next - 1) (g_time, g_routes, g_next, g_waiting, g_weight, g_slots, g_pace, g_till, g_failures, g_credit, g_successes, g_sick, g_well, g_broken, g_up, g_routePath, g_routeServers, g_setting, g_capacity, g_refill, g_tokens, g_home, g_homeTime, g_client, g_path, g_key, g_work, g_rank, g_state, g_at, g_attempts, g_tried, g_came, g_ended, g_ends, g_late, g_queue, g_total, g_took, g_sorted))) (nI now, nI rc, nI (nx + 1), nI ql, zwe, zsl, zpa, zti, zfa, zcr, zsu, zsi, zwl, zbr, zup, zrp, zrs, zse, zca, zre, ztk, zho, zhs, zcl, zpt, zky, zwo, zra, zst, zat, zan, ztr, zcm, zen, zae, zal, zqy, zto, ztu, zso) (nI q))) ∧ (¬ 0 ≤ r → (wpY_over (fun u => match u with | (g_time, g_routes, g_next, g_waiting, g_weight, g_slots, g_pace, g_till, g_failures, g_credit, g_successes, g_sick, g_well, g_broken, g_up, g_routePath, g_routeServers, g_setting, g_capacity, g_refill, g_tokens, g_home, g_homeTime, g_client, g_path, g_key, g_work, g_rank, g_state, g_at, g_attempts, g_tried, g_came, g_ended, g_ends, g_late, g_queue, g_total, g_took, g_sorted) => (P (g_next - 1) (g_time, g_routes, g_next, g_waiting, g_weight, g_slots, g_pace, g_till, g_failures, g_credit, g_successes, g_sick, g_well, g_broken, g_up, g_routePath, g_routeServers, g_setting, g_capacity, g_refill, g_tokens, g_home, g_homeTime, g_client, g_path, g_key, g_work, g_rank, g_state, g_at, g_attempts, g_tried, g_came, g_ended, g_ends, g_late, g_queue, g_total, g_took, g_sorted))) (nI now, nI rc, nI (nx + 1), nI ql, zwe, zsl, zpa, zti, zfa, zcr, zsu, zsi, zwl, zbr, zup, zrp, zrs, zse, zca, zre, ztk, zho, zhs, zcl, zpt, zky, zwo, zra, zst, zat, zan, ztr, zcm, zen, zae, zal, zqy, zto, ztu, zso) (nI q) 5))))) (nI now, nI rc, nI (nx + 1), nI ql, zwe, zsl, zpa, zti, zfa, zcr, zsu, zsi, zwl, zbr, zup, zrp, zrs, zse, zca, zre, ztk, zho, zhs, zcl, zpt, zky, zwo, zra, zst, zat, zan, ztr, zcm, zen, zae, zal, zqy, zto, ztu, zso) (nI p)) := by
  have hr12 : rc ≤ 12 := hrt.1
  have hqn : q < nx + 1 := by have := Nat.mod_le nx 32; omega
  have hqi : vp_in (nI q) 32 := vp_in_nI hq (by decide)
  have exq : nI nx &&& 31 = nI q := by rw [← hqx]; exact ms_slot (by omega)
  have hf' : ∀ j, iv_qs 0 0 ql j → qn j % 32 ≠ q := fun j hj => hf j (by rcases hj with hj | hj <;> omega)
  have hn1 : ¬ zst q = 1 := by rw [hst]; decide
  obtain ⟨hcl, hky, hpt, hat⟩ := hreq q hq
  obtain ⟨r, sv, hrs, hX, hY⟩ := sv_pair now rc ql (nx + 1) zae zal zan zat zbr zca zcl zcm zcr zen zfa zfi zho zhs zky zpa zpt zqx zqy zra zre zrp zrs zru zse zsi zsl zso zst zsu zst zti ztk ztr ztu zup zwe zwl zwo zto hr12 hp
  rcases hrs with ⟨rfl, rfl⟩ | ⟨i, hi, rfl, rfl⟩
  · have hR : md_R now (nx + 1) dn B 0 0 ql (nI now, nI rc, nI ql, zse, vp_updL zto 5 (zto 5 + 1), ztu, zwe, zsl, zpa, zbr, zup, zti, zfa, zcr, zru, zsu, zfi, zrp, zrs, zca, zre, ztk, zho, zhs, upd zst q 5, zcl, zpt, zky, zwo, zra, zcm, upd zen q (nI now), zat, zan, ztr, zae, zal, zqx) (nI now, nI rc, nI (nx + 1), nI ql, zwe, zsl, zpa, zti, zfa, zcr, zsu, zsi, zwl, zbr, zup, zrp, zrs, zse, zca, zre, ztk, zho, zhs, zcl, zpt, zky, zwo, zra, upd zst q 5, zat, zan, ztr, zcm, upd zen q (nI now), zae, zal, zqy, vp_updL zto 5 (zto 5 + 1), ztu, zso) :=
      md_mk hset hcli hsrv hrt hfnd (iv_req_st hreq (by decide)) (iv_run_same hrun hqn hq hn1 (by decide)) (iv_q_nx (iv_q_st hqs hf') (by omega)) (iv_tot_h htot (by decide) (by decide))
    exact ⟨_, _, _, hR, fun P hP => hX _ (br_t rfl (fi_X now rc ql zae zal zan zat zbr zca zcl zcm zcr zen zfa zfi zho zhs zky zpa zpt zqx zra zre zrp zrs zru zse zsl zst zsu zti ztk ztr ztu zup zwe zwo zto (h := 5) hq (by decide) _ hP)), fun P hP => hY _ (br_f (by decide) (fi_Y now rc ql (nx + 1) zae zal zan zat zbr zca zcl zcm zcr zen zfa zho zhs zky zpa zpt zqy zra zre zrp zrs zse zsi zsl zso zsu zst zti ztk ztr ztu zup zwe zwl zwo zto (h := 5) hq (by decide) _ (md_ny hR P hP)))⟩
  · have hsv : 0 ≤ zrs i := hrt.2 i hi
    have hi1 : ¬ nI i = -1 := ms_nI_m1 (by omega)
    rcases am_pair now rc ql (nx + 1) zae zal zan zat zbr zca zcl zcm zcr zen zfa zfi zho zhs zky zpa zpt zqx zqy zra zre zrp zrs zru zse zsi zsl zso zst zsu zst zti ztk ztr ztu zup zwe zwl zwo zto hset hcli hsrv hrt (by omega) hrun.1 hrun.2 hq hcl hky hpt with ⟨aX, aY⟩ | ⟨s', cr', al', ae', an', tr', hs', aX, aY⟩
    · have he : ∃ u' v' w', md_R now (nx + 1) dn B 0 0 w' u' v' ∧ (∀ P : SX → Prop, P u' → wpX_enqueue P (nI now, nI rc, nI ql, zse, zto, ztu, zwe, zsl, zpa, zbr, zup, zti, zfa, zcr, zru, zsu, zfi, zrp, zrs, zca, zre, ztk, zho, zhs, zst, zcl, zpt, zky, zwo, zra, zcm, zen, zat, zan, ztr, zae, zal, zqx) (nI nx)) ∧ (∀ P : SY → Prop, P v' → ∃ n16 : Nat, wY_place_16 P (nI q) (nI now) (nI rc) (nI (nx + 1)) (nI ql) n16 (nI ql) zwe zsl zpa zti zfa zcr zsu zsi zwl zbr zup zrp zrs zse zca zre ztk zho zhs zcl zpt zky zwo zra zst zat zan ztr zcm zen zae zal zqy zto ztu zso) := by
        by_cases hl : ql < 8
        · obtain ⟨u', v', w', hR', eX, eY⟩ := eq_lt8 now rc ql nx zae zal zan zat zbr zca zcl zcm zcr zen zfa zfi zho zhs zky zpa zpt zqx zqy zra zre zrp zrs zru zse zsi zsl zso zst zsu zti ztk ztr ztu zup zwe zwl zwo zto hset hcli hsrv hrt hfnd hreq hrun hqs htot hnx hq hqx hst hf hl
          exact ⟨u', v', w', hR', fun P hP => nm_r exq (br_t (nI_lt (b := 8) hl (by decide)) (eX P hP)), eY⟩
        · have e8 : ql = 8 := by have := hqs.2.2.1; omega
          subst e8
          exact eq_full now rc nx zae zal zan zat zbr zca zcl zcm zcr zen zfa zfi zho zhs zky zpa zpt zqx zqy zra zre zrp zrs zru zse zsi zsl zso zst zsu zti ztk ztr ztu zup zwe zwl zwo zto hset hcli hsrv hrt hfnd hreq hrun hqs htot hnx hq hqx hst hf
      obtain ⟨u', v', w', hR', eX, eY⟩ := he
      refine ⟨u', v', w', hR', fun P hP => hX _ (br_f hi1 (aX _ (br_t rfl (eX _ ?_)))), fun P hP => hY _ (br_t hsv ?_)⟩
      · obtain ⟨g_now, g_routeCount, g_queueLength, g_settings, g_totals, g_tookUnits, g_weightOf, g_slotsOf, g_paceOf, g_isBroken, g_isUp, g_shutTill, g_failures, g_credit, g_running, g_succeeded, g_findings, g_routePath, g_routeServers, g_capacityOf, g_refillOf, g_tokenCount, g_homeServer, g_homeSince, g_stateOf, g_clientOf, g_pathOf, g_keyOf, g_workOf, g_rankOf, g_cameAt, g_endedAt, g_serverOf, g_attempts, g_triedServers, g_attemptEnd, g_attemptTooLong, g_queue⟩ := u'
        exact hP
      · unfold wpY_place
        exact aY _ (br_t rfl (eY _ (md_ny hR' P hP)))
    · have hR : md_R now (nx + 1) dn B 0 0 ql (nI now, nI rc, nI ql, zse, zto, ztu, zwe, zsl, zpa, zbr, zup, zti, zfa, cr', upd zru s' (zru s' + 1), zsu, zfi, zrp, zrs, zca, zre, ztk, zho, zhs, upd zst q 1, zcl, zpt, zky, zwo, zra, zcm, zen, upd zat q (nI s'), an', tr', ae', al', zqx) (nI now, nI rc, nI (nx + 1), nI ql, zwe, zsl, zpa, zti, zfa, cr', zsu, zsi, zwl, zbr, zup, zrp, zrs, zse, zca, zre, ztk, zho, zhs, zcl, zpt, zky, zwo, zra, upd zst q 1, upd zat q (nI s'), an', tr', zcm, zen, ae', al', zqy, zto, ztu, zso) :=
        md_mk hset hcli hsrv hrt hfnd (iv_req_start hreq hs') (iv_run_start hrun hqn hq hs' hn1) (iv_q_nx (iv_q_st hqs hf') (by omega)) htot
      refine ⟨_, _, _, hR, fun P hP => hX _ (br_f hi1 (aX _ (br_f rd_1n0 hP))), fun P hP => hY _ (br_t hsv ?_)⟩
      unfold wpY_place
      exact aY _ (br_f rd_1n0 (md_ny hR P hP))
end
section
variable (now rc ql nx : Nat) (zae zal zan zat zbr zca zcl zcm zcr zen zfa zfi zho zhs zky zpa zpt zqx zqy zra zre zrp zrs zru zse zsi zsl zso zst zsu zsy zti ztk ztr ztu zup zwe zwl zwo : Nat → Int32) (zto : Nat → Int64)
theorem an_pair {dn B q c p key : Nat} {v4 v5 : Int32} {qn : Nat → Nat} (hset : iv_set zse) (hcli : iv_cli zre zho) (hsrv : iv_srv zwe zti) (hrt : iv_rt rc zrs) (hfnd : iv_fnd B zfi zsi zwl) (hreq : iv_req zcl zky zpt zst zat) (hrun : iv_run nx zst zat zru)
    (hqs : iv_q 0 0 ql nx qn zqx zqy zst) (htot : iv_tot nx dn zto) (hnx : nx < 2 ^ 30) (hq : q < 32) (hqx : nx % 32 = q) (hfree : nx < 32 ∨ 1 < zst q) (hc : c < 6) (hp : p < 4096) (hkey : key < 256) :
    ∃ r u' v' nx' w', nx' ≤ nx + 1 ∧ md_R now nx' dn B 0 0 w' u' v' ∧ (∀ P : Int32 → SX → Prop, P r u' → wX_arrive_94 P (nI c) (nI p) (nI key) v4 v5 (nI nx) (nI q) (nI now) (nI rc) (nI ql) zse zto ztu zwe zsl zpa zbr zup zti zfa zcr zru zsu zfi zrp zrs zca zre ztk zho zhs zst zcl zpt zky zwo zra zcm zen zat zan ztr zae zal zqx) ∧
    (∀ P : Int32 → SY → Prop, P r v' → wY_arrive_82 P (nI c) (nI p) (nI key) v4 v5 (nI q) (nI now) (nI rc) (nI nx) (nI ql) zwe zsl zpa zti zfa zcr zsu zsi zwl zbr zup zrp zrs zse zca zre ztk zho zhs zcl zpt zky zwo zra zst zat zan ztr zcm zen zae zal zqy zto ztu zso) := by
  have hqi : vp_in (nI q) 32 := vp_in_nI hq (by decide)
  have eq : (nI q).toNatClampNeg = q := nI_clamp (by omega)
  have hci : vp_in (nI c) 6 := vp_in_nI hc (by decide)
  have ec : (nI c).toNatClampNeg = c := nI_clamp (by omega)
  have hqn : q < nx + 1 := by have := Nat.mod_le nx 32; omega
  by_cases z : ztk c = 0
  · have hR : md_R now nx dn B 0 0 ql (nI now, nI rc, nI ql, zse, vp_updL zto 6 (zto 6 + 1), ztu, zwe, zsl, zpa, zbr, zup, zti, zfa, zcr, zru, zsu, zfi, zrp, zrs, zca, zre, ztk, zho, zhs, zst, zcl, zpt, zky, zwo, zra, zcm, zen, zat, zan, ztr, zae, zal, zqx) (nI now, nI rc, nI nx, nI ql, zwe, zsl, zpa, zti, zfa, zcr, zsu, zsi, zwl, zbr, zup, zrp, zrs, zse, zca, zre, ztk, zho, zhs, zcl, zpt, zky, zwo, zra, zst, zat, zan, ztr, zcm, zen, zae, zal, zqy, vp_updL zto 6 (zto 6 + 1), ztu, zso) := md_mk hset hcli hsrv hrt hfnd hreq hrun hqs (iv_tot_h htot (by decide) (by decide))
    refine ⟨-3, _, _, nx, _, by omega, hR, fun P hP => ⟨hci, ?_⟩, fun P hP => ⟨hci, ?_⟩⟩
    · rw [ec]; exact br_t z (nm_e hP)
    · rw [ec]; exact br_t z (nm_e hP)
  · have hn1 : ¬ zst q = 1 := by
      rcases hfree with h | h
      · have e : q = nx := by rw [← hqx]; exact Nat.mod_eq_of_lt h
        rw [hrun.1 q (by omega) hq]; decide
      · intro e; rw [e] at h; exact absurd h (by decide)
    have hf : ∀ j, j < ql → qn j % 32 ≠ q := by
      intro j hj
      obtain ⟨_, b, d⟩ := hqs.2.2.2.2.1 j (Or.inr ⟨Nat.zero_le _, hj⟩)
      rcases hfree with h | h
      · rw [← hqx]; omega
      · intro e
        rw [e] at d
        rw [d] at h
        exact absurd h (by decide)
    have hreq2 : iv_req (upd zcl q (nI c)) (upd zky q (nI key)) (upd zpt q (nI p)) (upd zst q 0) (upd zat q (-1)) := by
      intro j hj
      by_cases e : j = q
      · rw [e, pk_us, pk_us, pk_us, pk_us]
        exact ⟨⟨c, hc, rfl⟩, ⟨key, hkey, rfl⟩, ⟨p, hp, rfl⟩, fun x => absurd x (by decide)⟩
      · rw [pk_un e, pk_un e, pk_un e, pk_un e, pk_un e]
        exact hreq j hj
    have htot2 : iv_tot (nx + 1) dn (vp_updL zto 0 (zto 0 + 1)) := ⟨by rw [pk_uLs, htot.1, lN_1], by rw [pk_uLn (by decide)]; exact htot.2⟩
    obtain ⟨u', v', w', hR, hX, hY⟩ := ah_pair now rc ql nx zae zal (upd zan q 0) (upd zat q (-1)) zbr zca (upd zcl q (nI c)) (upd zcm q (nI now)) zcr (upd zen q (-1)) zfa zfi zho zhs (upd zky q (nI key)) zpa (upd zpt q (nI p)) zqx zqy (upd zra q v5) zre zrp zrs zru zse zsi zsl zso (upd zst q 0) zsu zti (upd ztk c (ztk c - 1)) (upd ztr q 0) ztu zup zwe zwl (upd zwo q v4) (vp_updL zto 0 (zto 0 + 1)) hset hcli hsrv hrt hfnd hreq2 (iv_run_enter hrun hqn hq hn1 (by decide)) (iv_q_st hqs (fun j hj => hf j (by rcases hj with hj | hj <;> omega))) htot2 hnx hq hqx pk_us hf hp
    have ent : (zto 0).toInt32 = nI nx := by rw [htot.1, lN_i]
    refine ⟨nI nx, u', v', nx + 1, w', by omega, hR, fun P hP => ⟨hci, ?_⟩, fun P hP => ⟨hci, ?_⟩⟩
    · rw [ec]
      exact br_f z ⟨hci, hci, nm_e (nm_e (et_X now rc ql zae zal zan zat zbr zca zcl zcm zcr zen zfa zfi zho zhs zky zpa zpt zqx zra zre zrp zrs zru zse zsl zst zsu zti (upd ztk c (ztk c - 1)) ztr ztu zup zwe zwo (vp_updL zto 0 (zto 0 + 1)) hq _ (hX P hP)))⟩
    · rw [ec, eq]
      exact br_f z ⟨hci, hci, nm_e ⟨hqi, nm_e ⟨hqi, nm_e ⟨hqi, nm_e ⟨hqi, nm_e ⟨hqi, nm_e ⟨hqi, nm_e ⟨hqi, nm_e ⟨hqi, nm_e ⟨hqi, nm_e ⟨hqi, nm_e ⟨hqi, nm_e (nm_e (nm_r (nI_1 nx) (hY P hP)))⟩⟩⟩⟩⟩⟩⟩⟩⟩⟩⟩⟩
end
