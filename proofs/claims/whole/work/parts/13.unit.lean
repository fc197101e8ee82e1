/-! the attempts that end in a unit: both loops -/
def yy_D (P : SY → Prop) (v : SY) : Prop := match v with
  | (g_time, g_routes, g_next, g_waiting, g_weight, g_slots, g_pace, g_till, g_failures, g_credit, g_successes, g_sick, g_well, g_broken, g_up, g_routePath, g_routeServers, g_setting, g_capacity, g_refill, g_tokens, g_home, g_homeTime, g_client, g_path, g_key, g_work, g_rank, g_state, g_at, g_attempts, g_tried, g_came, g_ended, g_ends, g_late, g_queue, g_total, g_took, g_sorted) => (g_next ≤ 32 → (∃ n84 : Nat, wY_unit_84 P n84 0 g_time g_routes g_next g_waiting g_weight g_slots g_pace g_till g_failures g_credit g_successes g_sick g_well g_broken g_up g_routePath g_routeServers g_setting g_capacity g_refill g_tokens g_home g_homeTime g_client g_path g_key g_work g_rank g_state g_at g_attempts g_tried g_came g_ended g_ends g_late g_queue g_total g_took g_sorted)) ∧ (¬ g_next ≤ 32 → (∀ x1_204 : Int32, x1_204 = g_next - 32 → (∃ n84 : Nat, wY_unit_84 P n84 x1_204 g_time g_routes g_next g_waiting g_weight g_slots g_pace g_till g_failures g_credit g_successes g_sick g_well g_broken g_up g_routePath g_routeServers g_setting g_capacity g_refill g_tokens g_home g_homeTime g_client g_path g_key g_work g_rank g_state g_at g_attempts g_tried g_came g_ended g_ends g_late g_queue g_total g_took g_sorted)))
theorem en_loop {now nx B w : Nat} (hnow : now < 2 ^ 30) (hnx : nx < 2 ^ 30) : ∀ d i : Nat, i + d = 32 → 32 ≤ nx + i → ∀ (dn : Nat) (u : SX) (v : SY), dn + d < 2 ^ 31 → md_R now nx dn B 0 0 w u v →
    ∃ u' v' dn', dn' ≤ dn + d ∧ md_R now nx dn' B 0 0 w u' v' ∧ (∀ (P : SX → Prop) (n : Nat), d < n → P u' → xx_E P (nI nx - 32) n (nI i) u) ∧ (∀ (P : SY → Prop) (n : Nat), d < n → yy_E P 1 (nI nx) v' → yy_E P n (nI (nx + i - 32)) v) := by
  intro d
  induction d with
  | zero =>
    intro i hi h32 dn u v hdn hR
    have e : i = 32 := by omega
    subst e
    have hR0 := hR
    obtain ⟨rc, qn, zae, zal, zan, zat, zbr, zca, zcl, zcm, zcr, zen, zfa, zfi, zho, zhs, zky, zpa, zpt, zqx, zqy, zra, zre, zrp, zrs, zru, zse, zsi, zsl, zso, zst, zsu, zti, ztk, ztr, ztu, zup, zwe, zwl, zwo, zto, rfl, rfl, _⟩ := hR
    have l : nI nx ≤ nI nx := Int32.le_rfl
    have e1 : nx + 32 - 32 = nx := by omega
    refine ⟨_, _, dn, by omega, hR0, fun P n hn hp => ?_, fun P n hn hp => ?_⟩
    · obtain ⟨m, rfl, hm⟩ := fu_m hn
      exact br_t (show (32 : Int32) ≤ nI 32 by decide) hp
    · obtain ⟨m, rfl, hm⟩ := fu_m hn
      rw [e1]
      exact br_t l (ex_t l hp)
  | succ d ih =>
    intro i hi h32 dn u v hdn hR
    have hR0 := hR
    obtain ⟨rc, qn, zae, zal, zan, zat, zbr, zca, zcl, zcm, zcr, zen, zfa, zfi, zho, zhs, zky, zpa, zpt, zqx, zqy, zra, zre, zrp, zrs, zru, zse, zsi, zsl, zso, zst, zsu, zti, ztk, ztr, ztu, zup, zwe, zwl, zwo, zto, rfl, rfl, hset, hcli, hsrv, hrt, hfnd, hreq, hrun, hqs, htot⟩ := hR
    have hq : (nx + i) % 32 < 32 := Nat.mod_lt _ (by decide)
    have eold : (nI nx - 32 + nI i) &&& 31 = nI ((nx + i) % 32) := ms_old (by omega)
    have erem : nI (nx + i - 32) - nI (nx + i - 32) / 32 * 32 = nI ((nx + i) % 32) := by rw [ms_rem (by omega)]; exact congrArg nI (by omega)
    generalize (nx + i) % 32 = q at hq eold erem
    have hqi : vp_in (nI q) 32 := vp_in_nI hq (by decide)
    have eq : (nI q).toNatClampNeg = q := nI_clamp (by omega)
    have hx : ¬ (32 : Int32) ≤ nI i := nI_ge (b := 32) (by omega) (by decide)
    have hy : ¬ nI nx ≤ nI (nx + i - 32) := nI_ge (by omega) (by omega)
    have h0 : ¬ (32 : Int32) = 0 := by decide
    have ey : nI (nx + i - 32) + 1 = nI (nx + (i + 1) - 32) := by rw [nI_1]; exact congrArg nI (by omega)
    by_cases hst : zst q = 1
    · by_cases hae : zae q = nI now
      · obtain ⟨s, hs, hat⟩ := (hreq q hq).2.2.2 hst
        have hsi : vp_in (nI s) 6 := vp_in_nI hs (by decide)
        have es : (nI s).toNatClampNeg = s := nI_clamp (by omega)
        have hqn : q < nx := Nat.lt_of_not_le (fun z => by have := hrun.1 q z hq; rw [hst] at this; exact absurd this (by decide))
        obtain ⟨u1, v1, dn1, hd1, hR1, X1, Y1⟩ := eo_pair now rc w nx zae zal zan zat zbr zca zcl zcm zcr zen zfa zfi zho zhs zky zpa zpt zqx zqy zra zre zrp zrs zru zse zsi zsl zso zst zsu zti ztk ztr ztu zup zwe zwl zwo zto hset hcli hsrv hrt hfnd hreq hrun hqs htot hnow (by omega) (by omega) hq hqn hst hs hat
        obtain ⟨u2, v2, dn2, hd2, hR2, X2, Y2⟩ := ih (i + 1) (by omega) (by omega) dn1 u1 v1 (by omega) hR1
        refine ⟨u2, v2, dn2, by omega, hR2, fun P n hn hp => ?_, fun P n hn hp => ?_⟩
        · obtain ⟨m, rfl, hm⟩ := fu_m hn
          have k := X2 P m (by omega) hp
          obtain ⟨g_now, g_routeCount, g_queueLength, g_settings, g_totals, g_tookUnits, g_weightOf, g_slotsOf, g_paceOf, g_isBroken, g_isUp, g_shutTill, g_failures, g_credit, g_running, g_succeeded, g_findings, g_routePath, g_routeServers, g_capacityOf, g_refillOf, g_tokenCount, g_homeServer, g_homeSince, g_stateOf, g_clientOf, g_pathOf, g_keyOf, g_workOf, g_rankOf, g_cameAt, g_endedAt, g_serverOf, g_attempts, g_triedServers, g_attemptEnd, g_attemptTooLong, g_queue⟩ := u1
          refine br_f hx (nm_r eold ⟨hqi, ?_⟩)
          rw [eq]
          refine br_t hst ⟨hqi, br_t hae ⟨hqi, nm_r hat ⟨hsi, hsi, ?_⟩⟩⟩
          rw [es]
          exact nm_e ⟨hqi, X1 _ (nm_r (nI_1 i) k)⟩
        · obtain ⟨m, rfl, hm⟩ := fu_m hn
          have k := Y2 P m (by omega) hp
          obtain ⟨g_time, g_routes, g_next, g_waiting, g_weight, g_slots, g_pace, g_till, g_failures, g_credit, g_successes, g_sick, g_well, g_broken, g_up, g_routePath, g_routeServers, g_setting, g_capacity, g_refill, g_tokens, g_home, g_homeTime, g_client, g_path, g_key, g_work, g_rank, g_state, g_at, g_attempts, g_tried, g_came, g_ended, g_ends, g_late, g_queue, g_total, g_took, g_sorted⟩ := v1
          refine br_f hy ⟨h0, nm_r erem ⟨hqi, ?_⟩⟩
          rw [eq]
          exact br_t hst ⟨hqi, br_t hae (Y1 _ (nm_r ey k))⟩
      · obtain ⟨u2, v2, dn2, hd2, hR2, X2, Y2⟩ := ih (i + 1) (by omega) (by omega) dn _ _ (by omega) hR0
        refine ⟨u2, v2, dn2, by omega, hR2, fun P n hn hp => ?_, fun P n hn hp => ?_⟩
        · obtain ⟨m, rfl, hm⟩ := fu_m hn
          refine br_f hx (nm_r eold ⟨hqi, ?_⟩)
          rw [eq]
          exact br_t hst ⟨hqi, br_f hae (nm_r (nI_1 i) (X2 P m (by omega) hp))⟩
        · obtain ⟨m, rfl, hm⟩ := fu_m hn
          refine br_f hy ⟨h0, nm_r erem ⟨hqi, ?_⟩⟩
          rw [eq]
          exact br_t hst ⟨hqi, br_f hae (nm_r ey (Y2 P m (by omega) hp))⟩
    · obtain ⟨u2, v2, dn2, hd2, hR2, X2, Y2⟩ := ih (i + 1) (by omega) (by omega) dn _ _ (by omega) hR0
      refine ⟨u2, v2, dn2, by omega, hR2, fun P n hn hp => ?_, fun P n hn hp => ?_⟩
      · obtain ⟨m, rfl, hm⟩ := fu_m hn
        refine br_f hx (nm_r eold ⟨hqi, ?_⟩)
        rw [eq]
        exact br_f hst (nm_r (nI_1 i) (X2 P m (by omega) hp))
      · obtain ⟨m, rfl, hm⟩ := fu_m hn
        refine br_f hy ⟨h0, nm_r erem ⟨hqi, ?_⟩⟩
        rw [eq]
        exact br_f hst (nm_r ey (Y2 P m (by omega) hp))
section
variable (now rc ql nx : Nat) (zae zal zan zat zbr zca zcl zcm zcr zen zfa zfi zho zhs zky zpa zpt zqx zqy zra zre zrp zrs zru zse zsi zsl zso zst zsu zsy zti ztk ztr ztu zup zwe zwl zwo : Nat → Int32) (zto : Nat → Int64)
theorem en_skip (h0 : ∀ q, nx ≤ q → q < 32 → zst q = 0) (P : SX → Prop) (h : ∀ n, nx < n → xx_E P (nI nx - 32) n (nI (32 - nx)) (nI now, nI rc, nI ql, zse, zto, ztu, zwe, zsl, zpa, zbr, zup, zti, zfa, zcr, zru, zsu, zfi, zrp, zrs, zca, zre, ztk, zho, zhs, zst, zcl, zpt, zky, zwo, zra, zcm, zen, zat, zan, ztr, zae, zal, zqx)) : ∀ e i n : Nat, i + e + nx = 32 → e + nx < n → xx_E P (nI nx - 32) n (nI i) (nI now, nI rc, nI ql, zse, zto, ztu, zwe, zsl, zpa, zbr, zup, zti, zfa, zcr, zru, zsu, zfi, zrp, zrs, zca, zre, ztk, zho, zhs, zst, zcl, zpt, zky, zwo, zra, zcm, zen, zat, zan, ztr, zae, zal, zqx) := by
  intro e
  induction e with
  | zero =>
    intro i n hi hn
    rw [show i = 32 - nx from by omega]
    exact h n (by omega)
  | succ e ih =>
    intro i n hi hn
    have eold : (nI nx - 32 + nI i) &&& 31 = nI ((nx + i) % 32) := ms_old (by omega)
    rw [show (nx + i) % 32 = nx + i from Nat.mod_eq_of_lt (by omega)] at eold
    have hqi : vp_in (nI (nx + i)) 32 := vp_in_nI (by omega) (by decide)
    have eq : (nI (nx + i)).toNatClampNeg = nx + i := nI_clamp (by omega)
    have hx : ¬ (32 : Int32) ≤ nI i := nI_ge (b := 32) (by omega) (by decide)
    have hst : ¬ zst (nx + i) = 1 := by rw [h0 (nx + i) (by omega) (by omega)]; decide
    obtain ⟨m, rfl, hm⟩ := fu_m hn
    refine br_f hx (nm_r eold ⟨hqi, ?_⟩)
    rw [eq]
    exact br_f hst (nm_r (nI_1 i) (ih (i + 1) m (by omega) (by omega)))
end
theorem ea_pair {now nx dn B w : Nat} {u : SX} {v : SY} (hnow : now < 2 ^ 30) (hnx : nx < 2 ^ 30) (hdn : dn < 2 ^ 30) (hR : md_R now nx dn B 0 0 w u v) :
    ∃ u' v' dn', dn' ≤ dn + 32 ∧ md_R now nx dn' B 0 0 w u' v' ∧ (∀ P : SX → Prop, P u' → wpX_endAttempts P u) ∧ (∀ P : SY → Prop, yy_E P 1 (nI nx) v' → yy_D P v) := by
  by_cases z : nx ≤ 32
  · obtain ⟨u', v', dn', hd, hR', X, Y⟩ := en_loop (now := now) (nx := nx) (B := B) (w := w) hnow hnx nx (32 - nx) (by omega) (by omega) dn u v (by omega) hR
    obtain ⟨rc, qn, zae, zal, zan, zat, zbr, zca, zcl, zcm, zcr, zen, zfa, zfi, zho, zhs, zky, zpa, zpt, zqx, zqy, zra, zre, zrp, zrs, zru, zse, zsi, zsl, zso, zst, zsu, zti, ztk, ztr, ztu, zup, zwe, zwl, zwo, zto, rfl, rfl, hset, hcli, hsrv, hrt, hfnd, hreq, hrun, hqs, htot⟩ := hR
    have e1 : (zto 0).toInt32 - 32 = nI nx - 32 := by rw [htot.1, lN_i]
    have e0 : nx + (32 - nx) - 32 = 0 := by omega
    rw [e0] at Y
    exact ⟨u', v', dn', by omega, hR', fun P hp => nm_r e1 ⟨33, en_skip now rc w nx zae zal zan zat zbr zca zcl zcm zcr zen zfa zfi zho zhs zky zpa zpt zqx zra zre zrp zrs zru zse zsl zst zsu zti ztk ztr ztu zup zwe zwo zto hrun.1 P (fun n hn => X P n hn hp) (32 - nx) 0 33 (by omega) (by omega)⟩,
      fun P hp => br_t (nI_le (b := 32) z (by decide)) ⟨nx + 1, Y P (nx + 1) (by omega) hp⟩⟩
  · obtain ⟨u', v', dn', hd, hR', X, Y⟩ := en_loop (now := now) (nx := nx) (B := B) (w := w) hnow hnx 32 0 (by omega) (by omega) dn u v (by omega) hR
    obtain ⟨rc, qn, zae, zal, zan, zat, zbr, zca, zcl, zcm, zcr, zen, zfa, zfi, zho, zhs, zky, zpa, zpt, zqx, zqy, zra, zre, zrp, zrs, zru, zse, zsi, zsl, zso, zst, zsu, zti, ztk, ztr, ztu, zup, zwe, zwl, zwo, zto, rfl, rfl, hset, hcli, hsrv, hrt, hfnd, hreq, hrun, hqs, htot⟩ := hR
    have e1 : (zto 0).toInt32 - 32 = nI nx - 32 := by rw [htot.1, lN_i]
    have e2 : nI nx - 32 = nI (nx + 0 - 32) := pk_sub (b := 32) (by omega)
    exact ⟨u', v', dn', by omega, hR', fun P hp => nm_r e1 ⟨33, X P 33 (by omega) hp⟩,
      fun P hp => br_f (fun y => z ((nI_leI (b := 32) (by omega) (by decide)).mp y)) (nm_r e2 ⟨33, Y P 33 (by omega) hp⟩)⟩
