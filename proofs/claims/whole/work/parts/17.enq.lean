/-! a request enters the queue -/
section
variable (now rc ql nx : Nat) (zae zal zan zat zbr zca zcl zcm zcr zen zfa zfi zho zhs zky zpa zpt zqx zqy zra zre zrp zrs zru zse zsi zsl zso zst zsu zsy zti ztk ztr ztu zup zwe zwl zwo : Nat → Int32) (zto : Nat → Int64)
theorem iq_loop {q : Nat} {x1 : Int32} {qn : Nat → Nat} (qlx : Nat) (enx : Nat → Int32) (tox : Nat → Int64) (hq : q < 32) : ∀ k : Nat, k ≤ 7 → ∀ qx qy : Nat → Int32, (∀ j, j < 8 → qy j = qx j) → (∀ j, j < k → qx j = nI (qn j) ∧ qn j < 2 ^ 30) →
    ∃ (p : Nat) (qx' qy' : Nat → Int32), p ≤ k ∧ (∀ j, j < 8 → qy' j = qx' j) ∧ qy' 8 = qy 8 ∧ (∀ j, j < p → qx' j = qx j) ∧ (∀ j, p < j → j ≤ k → qx' j = qx (j - 1)) ∧ (∀ j, k < j → qx' j = qx j) ∧
    (∀ (P : SX → Prop) (n : Nat), k < n → wX_enqueue_129 P x1 (nI p) (nI now) (nI rc) (nI qlx) zse tox ztu zwe zsl zpa zbr zup zti zfa zcr zru zsu zfi zrp zrs zca zre ztk zho zhs zst zcl zpt zky zwo zra zcm enx zat zan ztr zae zal qx' → wX_enqueue_72 P x1 (nI q) (nI now) (nI rc) (nI qlx) n (nI k) (nI k + (-1)) zse tox ztu zwe zsl zpa zbr zup zti zfa zcr zru zsu zfi zrp zrs zca zre ztk zho zhs zst zcl zpt zky zwo zra zcm enx zat zan ztr zae zal qx) ∧
    (∀ (P : SY → Prop) (n : Nat), k < n → wY_place_65 P (nI p) (nI now) (nI rc) (nI nx) (nI ql) zwe zsl zpa zti zfa zcr zsu zsi zwl zbr zup zrp zrs zse zca zre ztk zho zhs zcl zpt zky zwo zra zsy zat zan ztr zcm zen zae zal qy' zto ztu zso → wY_place_16 P (nI q) (nI now) (nI rc) (nI nx) (nI ql) n (nI k) zwe zsl zpa zti zfa zcr zsu zsi zwl zbr zup zrp zrs zse zca zre ztk zho zhs zcl zpt zky zwo zra zsy zat zan ztr zcm zen zae zal qy zto ztu zso) := by
  have hqi : vp_in (nI q) 32 := vp_in_nI hq (by decide)
  have eq : (nI q).toNatClampNeg = q := nI_clamp (by omega)
  intro k
  induction k with
  | zero =>
    intro _ qx qy hag hqn
    exact ⟨0, qx, qy, Nat.le_refl _, hag, rfl, fun j hj => rfl, fun j h1 h2 => by omega, fun j _ => rfl, fun P n hn hp => (by obtain ⟨m, rfl, hm_⟩ := fu_m hn; exact br_t (show nI 0 + (-1) < 0 by decide) hp), fun P n hn hp => (by obtain ⟨m, rfl, hm_⟩ := fu_m hn; exact br_t (show nI 0 ≤ 0 by decide) hp)⟩
  | succ k ih =>
    intro hk qx qy hag hqn
    obtain ⟨k1, k2⟩ := hqn k (by omega)
    have ek : (nI k).toNatClampNeg = k := nI_clamp (by omega)
    have k8 : vp_in (nI k) 8 := vp_in_nI (by omega) (by decide)
    have k9 : vp_in (nI k) 9 := vp_in_nI (by omega) (by decide)
    have hsi : vp_in (nI (qn k % 32)) 32 := vp_in_nI (Nat.mod_lt _ (by decide)) (by decide)
    have es : (nI (qn k % 32)).toNatClampNeg = qn k % 32 := nI_clamp (by omega)
    have ex : qx k &&& 31 = nI (qn k % 32) := by rw [k1]; exact ms_slot (by omega)
    have ey : qy k - qy k / 32 * 32 = nI (qn k % 32) := by rw [hag k (by omega), k1]; exact ms_rem (by omega)
    have h0 : ¬ (32 : Int32) = 0 := by decide
    have hpos : ¬ nI (k + 1) ≤ 0 := nI_nle (by omega) (by omega)
    by_cases z : zra (qn k % 32) < zra q
    · obtain ⟨p, qx', qy', hp, a1, a8, a2, a3, a4, X1, Y1⟩ := ih (by omega) (upd qx (k + 1) (qx k)) (upd qy (k + 1) (qy k))
        (fun j hj => by
          by_cases e : j = k + 1
          · rw [e, pk_us, pk_us]; exact hag k (by omega)
          · rw [pk_un e, pk_un e]; exact hag j hj)
        (fun j hj => by rw [pk_un (by omega)]; exact hqn j (by omega))
      refine ⟨p, qx', qy', by omega, a1, by rw [a8, pk_un (by omega)], fun j hj => by rw [a2 j hj, pk_un (by omega)], fun j h1 h2 => ?_, fun j hj => by rw [a4 j (by omega), pk_un (by omega)], fun P n hn hp => ?_, fun P n hn hp => ?_⟩
      · by_cases e : j = k + 1
        · rw [e, a4 (k + 1) (by omega), pk_us]; rfl
        · rw [a3 j h1 (by omega), pk_un (by omega)]
      · obtain ⟨m, rfl, hm⟩ := fu_m hn
        rw [pk_m1]
        refine br_f (nI_pos (by omega)) ⟨k8, ?_⟩
        rw [ek, ex, es, eq, nI_1, nI_clamp (n := k + 1) (by omega)]
        exact ⟨hsi, hqi, br_t z ⟨k8, vp_in_nI (by omega) (by decide), nm_e (nm_e (X1 P m (by omega) hp))⟩⟩
      · obtain ⟨m, rfl, hm⟩ := fu_m hn
        refine br_f hpos ?_
        rw [nI_pred, ek, ey, es, eq, nI_clamp (n := k + 1) (by omega)]
        exact ⟨k9, h0, hsi, hqi, br_f (Int32.not_le.mpr z) ⟨k9, vp_in_nI (by omega) (by decide), nm_e (nm_r (pk_m1 k) (Y1 P m (by omega) hp))⟩⟩
    · refine ⟨k + 1, qx, qy, Nat.le_refl _, hag, rfl, fun j hj => rfl, fun j h1 h2 => by omega, fun j _ => rfl, fun P n hn hp => ?_, fun P n hn hp => ?_⟩
      · obtain ⟨m, rfl, hm⟩ := fu_m hn
        rw [pk_m1]
        refine br_f (nI_pos (by omega)) ⟨k8, ?_⟩
        rw [ek, ex, es, eq]
        exact ⟨hsi, hqi, br_f z hp⟩
      · obtain ⟨m, rfl, hm⟩ := fu_m hn
        refine br_f hpos ?_
        rw [nI_pred, ek, ey, es, eq]
        exact ⟨k9, h0, hsi, hqi, br_t (Int32.not_lt.mp z) hp⟩
end
/-- the queue with a new entry at p -/
theorem iv_q_ins {L nx p q : Nat} {qn : Nat → Nat} {qx qx' qy' st : Nat → Int32} (hL : L ≤ 7) (hp : p ≤ L) (h5 : ∀ j, j < L → qx j = nI (qn j) ∧ qn j < nx ∧ st (qn j % 32) = 0) (h6 : ∀ i j, i < L → j < L → i ≠ j → qn i % 32 ≠ qn j % 32)
    (hq : nx % 32 = q) (hst : st q = 0) (hf : ∀ j, j < L → qn j % 32 ≠ q) (a1 : ∀ j, j < 8 → qy' j = qx' j) (a2 : ∀ j, j < p → qx' j = qx j) (a3 : ∀ j, p < j → j ≤ L → qx' j = qx (j - 1)) :
    iv_q 0 0 (L + 1) (nx + 1) (fun j => if j < p then qn j else if j = p then nx else qn (j - 1)) (upd qx' p (nI nx)) (upd qy' p (nI nx)) st := by
  have key : ∀ j, iv_qs 0 0 (L + 1) j → (j < p ∧ j < L) ∨ j = p ∨ (¬ j < p ∧ ¬ j = p ∧ p < j ∧ j ≤ L ∧ j - 1 < L) := by
    intro j hj
    rcases hj with hj | hj
    · omega
    · omega
  refine ⟨Nat.le_refl _, Nat.zero_le _, by omega, fun j hj => ?_, fun j hj => ?_, fun i j hi hj hij => ?_⟩
  · by_cases e : j = p
    · rw [e, pk_us, pk_us]
    · rw [pk_un e, pk_un e]; exact a1 j hj
  · dsimp only
    rcases key j hj with ⟨e, e'⟩ | e | ⟨e1, e2, e3, e4, e5⟩
    · rw [if_pos e, pk_un (by omega), a2 j e]
      obtain ⟨x, y, z⟩ := h5 j e'
      exact ⟨x, by omega, z⟩
    · rw [if_neg (by omega), if_pos e, e, pk_us, hq]
      exact ⟨rfl, by omega, hst⟩
    · rw [if_neg e1, if_neg e2, pk_un e2, a3 j e3 e4]
      obtain ⟨x, y, z⟩ := h5 (j - 1) e5
      exact ⟨x, by omega, z⟩
  · dsimp only
    rcases key i hi with ⟨e, e'⟩ | e | ⟨e1, e2, e3, e4, e5⟩
    · rcases key j hj with ⟨f, f'⟩ | f | ⟨f1, f2, f3, f4, f5⟩
      · rw [if_pos e, if_pos f]; exact h6 i j e' f' hij
      · rw [if_pos e, if_neg (by omega), if_pos f, hq]; exact hf i e'
      · rw [if_pos e, if_neg f1, if_neg f2]; exact h6 i (j - 1) e' f5 (by omega)
    · rcases key j hj with ⟨f, f'⟩ | f | ⟨f1, f2, f3, f4, f5⟩
      · rw [if_neg (by omega), if_pos e, if_pos f, hq]; exact Ne.symm (hf j f')
      · exact absurd (e.trans f.symm) hij
      · rw [if_neg (by omega), if_pos e, if_neg f1, if_neg f2, hq]; exact Ne.symm (hf (j - 1) f5)
    · rcases key j hj with ⟨f, f'⟩ | f | ⟨f1, f2, f3, f4, f5⟩
      · rw [if_neg e1, if_neg e2, if_pos f]; exact h6 (i - 1) j e5 f' (by omega)
      · rw [if_neg e1, if_neg e2, if_neg (by omega), if_pos f, hq]; exact hf (i - 1) e5
      · rw [if_neg e1, if_neg e2, if_neg f1, if_neg f2]; exact h6 (i - 1) (j - 1) e5 f5 (by omega)
theorem iv_q_nx {l k w nxt nxt' : Nat} {qn : Nat → Nat} {qx qy st : Nat → Int32} (h : iv_q l k w nxt qn qx qy st) (hn : nxt ≤ nxt') : iv_q l k w nxt' qn qx qy st := by
  obtain ⟨h1, h2, h3, h4, h5, h6⟩ := h
  refine ⟨h1, h2, h3, h4, fun j hj => ?_, h6⟩
  obtain ⟨a, b, c⟩ := h5 j hj
  exact ⟨a, by omega, c⟩
section
variable (now rc ql nx : Nat) (zae zal zan zat zbr zca zcl zcm zcr zen zfa zfi zho zhs zky zpa zpt zqx zqy zra zre zrp zrs zru zse zsi zsl zso zst zsu zsy zti ztk ztr ztu zup zwe zwl zwo : Nat → Int32) (zto : Nat → Int64)
theorem eq_lt8 {dn B q : Nat} {qn : Nat → Nat} (hset : iv_set zse) (hcli : iv_cli zre zho) (hsrv : iv_srv zwe zti) (hrt : iv_rt rc zrs) (hfnd : iv_fnd B zfi zsi zwl) (hreq : iv_req zcl zky zpt zst zat) (hrun : iv_run (nx + 1) zst zat zru)
    (hqs : iv_q 0 0 ql nx qn zqx zqy zst) (htot : iv_tot (nx + 1) dn zto) (hnx : nx < 2 ^ 30) (hq : q < 32) (hqx : nx % 32 = q) (hst : zst q = 0) (hf : ∀ j, j < ql → qn j % 32 ≠ q) (hl : ql < 8) :
    ∃ u' v' w', md_R now (nx + 1) dn B 0 0 w' u' v' ∧ (∀ P : SX → Prop, P u' → wX_enqueue_59 P (nI nx) (nI q) (nI now) (nI rc) (nI ql) zse zto ztu zwe zsl zpa zbr zup zti zfa zcr zru zsu zfi zrp zrs zca zre ztk zho zhs zst zcl zpt zky zwo zra zcm zen zat zan ztr zae zal zqx) ∧ (∀ P : SY → Prop, P v' → ∃ n16 : Nat, wY_place_16 P (nI q) (nI now) (nI rc) (nI (nx + 1)) (nI ql) n16 (nI ql) zwe zsl zpa zti zfa zcr zsu zsi zwl zbr zup zrp zrs zse zca zre ztk zho zhs zcl zpt zky zwo zra zst zat zan ztr zcm zen zae zal zqy zto ztu zso) := by
  obtain ⟨h1, h2, h3, h4, h5, h6⟩ := hqs
  obtain ⟨p, qx', qy', hp, a1, a8, a2, a3, a4, X1, Y1⟩ := iq_loop now rc ql (nx + 1) zae zal zan zat zbr zca zcl zcm zcr zen zfa zfi zho zhs zky zpa zpt zra zre zrp zrs zru zse zsi zsl zso zst zsu zst zti ztk ztr ztu zup zwe zwl zwo zto (x1 := nI nx) (qn := qn) ql zen zto hq ql (by omega) zqx zqy h4 (fun j hj => by
    obtain ⟨a, b, _⟩ := h5 j (Or.inr ⟨Nat.zero_le _, hj⟩)
    exact ⟨a, by omega⟩)
  have p8 : vp_in (nI p) 8 := vp_in_nI (by omega) (by decide)
  have p9 : vp_in (nI p) 9 := vp_in_nI (by omega) (by decide)
  have ep : (nI p).toNatClampNeg = p := nI_clamp (by omega)
  have hR : md_R now (nx + 1) dn B 0 0 (ql + 1) (nI now, nI rc, nI (ql + 1), zse, zto, ztu, zwe, zsl, zpa, zbr, zup, zti, zfa, zcr, zru, zsu, zfi, zrp, zrs, zca, zre, ztk, zho, zhs, zst, zcl, zpt, zky, zwo, zra, zcm, zen, zat, zan, ztr, zae, zal, upd qx' p (nI nx)) (nI now, nI rc, nI (nx + 1), nI (ql + 1), zwe, zsl, zpa, zti, zfa, zcr, zsu, zsi, zwl, zbr, zup, zrp, zrs, zse, zca, zre, ztk, zho, zhs, zcl, zpt, zky, zwo, zra, zst, zat, zan, ztr, zcm, zen, zae, zal, upd qy' p (nI nx), zto, ztu, zso) :=
    md_mk hset hcli hsrv hrt hfnd hreq hrun (iv_q_ins (by omega) hp (fun j hj => h5 j (Or.inr ⟨Nat.zero_le _, hj⟩)) (fun i j hi hj => h6 i j (Or.inr ⟨Nat.zero_le _, hi⟩) (Or.inr ⟨Nat.zero_le _, hj⟩)) hqx hst hf a1 a2 a3) htot
  have e1 : nI ql - 1 = nI ql + (-1) := Int32.sub_eq_add_neg ..
  have eux : upd qx' (nI p).toNatClampNeg (nI nx) = upd qx' p (nI nx) := by rw [ep]
  have euy : upd qy' (nI p).toNatClampNeg (nI (nx + 1) - 1) = upd qy' p (nI nx) := by rw [ep, nI_pred]
  have h9 : ¬ (9 : Int32) ≤ nI (ql + 1) := nI_ge (b := 9) (by omega) (by decide)
  exact ⟨_, _, _, hR, fun P hP => nm_r e1 ⟨ql + 1, X1 P (ql + 1) (by omega) ⟨p8, nm_r eux (nm_r (nI_1 ql) hP)⟩⟩,
    fun P hP => ⟨ql + 1, Y1 P (ql + 1) (by omega) ⟨p9, nm_r euy (nm_r (nI_1 ql) (br_f h9 hP))⟩⟩⟩
end
section
variable (now rc ql nx : Nat) (zae zal zan zat zbr zca zcl zcm zcr zen zfa zfi zho zhs zky zpa zpt zqx zqy zra zre zrp zrs zru zse zsi zsl zso zst zsu zsy zti ztk ztr ztu zup zwe zwl zwo : Nat → Int32) (zto : Nat → Int64)
theorem eq_full {dn B q : Nat} {qn : Nat → Nat} (hset : iv_set zse) (hcli : iv_cli zre zho) (hsrv : iv_srv zwe zti) (hrt : iv_rt rc zrs) (hfnd : iv_fnd B zfi zsi zwl) (hreq : iv_req zcl zky zpt zst zat) (hrun : iv_run (nx + 1) zst zat zru)
    (hqs : iv_q 0 0 8 nx qn zqx zqy zst) (htot : iv_tot (nx + 1) dn zto) (hnx : nx < 2 ^ 30) (hq : q < 32) (hqx : nx % 32 = q) (hst : zst q = 0) (hf : ∀ j, j < 8 → qn j % 32 ≠ q) :
    ∃ u' v' w', md_R now (nx + 1) dn B 0 0 w' u' v' ∧ (∀ P : SX → Prop, P u' → wpX_enqueue P (nI now, nI rc, nI 8, zse, zto, ztu, zwe, zsl, zpa, zbr, zup, zti, zfa, zcr, zru, zsu, zfi, zrp, zrs, zca, zre, ztk, zho, zhs, zst, zcl, zpt, zky, zwo, zra, zcm, zen, zat, zan, ztr, zae, zal, zqx) (nI nx)) ∧ (∀ P : SY → Prop, P v' → ∃ n16 : Nat, wY_place_16 P (nI q) (nI now) (nI rc) (nI (nx + 1)) (nI 8) n16 (nI 8) zwe zsl zpa zti zfa zcr zsu zsi zwl zbr zup zrp zrs zse zca zre ztk zho zhs zcl zpt zky zwo zra zst zat zan ztr zcm zen zae zal zqy zto ztu zso) := by
  have hqs0 := hqs
  obtain ⟨h1, h2, h3, h4, h5, h6⟩ := hqs
  have h5' : ∀ j, j < 8 → zqx j = nI (qn j) ∧ qn j < nx ∧ zst (qn j % 32) = 0 := fun j hj => h5 j (Or.inr ⟨Nat.zero_le _, hj⟩)
  have h6' : ∀ i j, i < 8 → j < 8 → i ≠ j → qn i % 32 ≠ qn j % 32 := fun i j hi hj => h6 i j (Or.inr ⟨Nat.zero_le _, hi⟩) (Or.inr ⟨Nat.zero_le _, hj⟩)
  obtain ⟨k1, k2, k3⟩ := h5' 7 (by decide)
  have hqi : vp_in (nI q) 32 := vp_in_nI hq (by decide)
  have eq : (nI q).toNatClampNeg = q := nI_clamp (by omega)
  have hs32 : qn 7 % 32 < 32 := Nat.mod_lt _ (by decide)
  have hsn : qn 7 % 32 < nx + 1 := by have := Nat.mod_le (qn 7) 32; omega
  have hsi : vp_in (nI (qn 7 % 32)) 32 := vp_in_nI hs32 (by decide)
  have es : (nI (qn 7 % 32)).toNatClampNeg = qn 7 % 32 := nI_clamp (by omega)
  have ex : zqx 7 &&& 31 = nI (qn 7 % 32) := by rw [k1]; exact ms_slot (by omega)
  have ey : zqy 7 - zqy 7 / 32 * 32 = nI (qn 7 % 32) := by rw [h4 7 (by decide), k1]; exact ms_rem (by omega)
  have exq : nI nx &&& 31 = nI q := by rw [← hqx]; exact ms_slot (by omega)
  have h0 : ¬ (32 : Int32) = 0 := by decide
  have l8 : ¬ nI 8 < 8 := by decide
  have e7 : nI 8 - 1 = nI 7 := by decide
  have e7' : nI 8 + (-1) = nI 7 := by decide
  have c7 : (nI 7).toNatClampNeg = 7 := nI_clamp (by decide)
  have c8 : (nI 8).toNatClampNeg = 8 := nI_clamp (by decide)
  have v79 : vp_in (nI 7) 9 := vp_in_nI (by decide) (by decide)
  have v89 : vp_in (nI 8) 9 := vp_in_nI (by decide) (by decide)
  have n80 : ¬ nI 8 ≤ 0 := by decide
  have s99 : (9 : Int32) ≤ nI 9 := by decide
  by_cases z : zra (qn 7 % 32) < zra q
  · obtain ⟨p, qx', qy', hp, a1, a8, a2, a3, a4, X1, Y1⟩ := iq_loop now rc 8 (nx + 1) zae zal zan zat zbr zca zcl zcm zcr zen zfa zfi zho zhs zky zpa zpt zra zre zrp zrs zru zse zsi zsl zso (upd zst (qn 7 % 32) 5) zsu zst zti ztk ztr ztu zup zwe zwl zwo zto (x1 := nI nx) (qn := qn) 7 (upd zen (qn 7 % 32) (nI now)) (vp_updL zto 5 (zto 5 + 1)) hq 7 (by omega) zqx (upd zqy 8 (zqy 7))
      (fun j hj => by rw [pk_un (by omega)]; exact h4 j hj) (fun j hj => by
        obtain ⟨a, b, _⟩ := h5' j (by omega)
        exact ⟨a, by omega⟩)
    have p8 : vp_in (nI p) 8 := vp_in_nI (by omega) (by decide)
    have p9 : vp_in (nI p) 9 := vp_in_nI (by omega) (by decide)
    have ep : (nI p).toNatClampNeg = p := nI_clamp (by omega)
    have eux : upd qx' (nI p).toNatClampNeg (nI nx) = upd qx' p (nI nx) := by rw [ep]
    have euy : upd qy' (nI p).toNatClampNeg (nI (nx + 1) - 1) = upd qy' p (nI nx) := by rw [ep, nI_pred]
    have ey8 : (upd qy' p (nI nx)) 8 = nI (qn 7) := by rw [pk_un (by omega), a8, pk_us, h4 7 (by decide), k1]
    have hR : md_R now (nx + 1) dn B 0 0 8 (nI now, nI rc, nI 8, zse, vp_updL zto 5 (zto 5 + 1), ztu, zwe, zsl, zpa, zbr, zup, zti, zfa, zcr, zru, zsu, zfi, zrp, zrs, zca, zre, ztk, zho, zhs, upd zst (qn 7 % 32) 5, zcl, zpt, zky, zwo, zra, zcm, upd zen (qn 7 % 32) (nI now), zat, zan, ztr, zae, zal, upd qx' p (nI nx)) (nI now, nI rc, nI (nx + 1), nI 8, zwe, zsl, zpa, zti, zfa, zcr, zsu, zsi, zwl, zbr, zup, zrp, zrs, zse, zca, zre, ztk, zho, zhs, zcl, zpt, zky, zwo, zra, upd zst (qn 7 % 32) 5, zat, zan, ztr, zcm, upd zen (qn 7 % 32) (nI now), zae, zal, upd qy' p (nI nx), vp_updL zto 5 (zto 5 + 1), ztu, zso) :=
      md_mk hset hcli hsrv hrt hfnd (iv_req_st hreq (by decide)) (iv_run_same hrun hsn hs32 (by rw [k3]; decide) (by decide))
        (iv_q_ins (L := 7) (by omega) hp (fun j hj => by
          obtain ⟨a, b, c⟩ := h5' j (by omega)
          exact ⟨a, b, by rw [pk_un (h6' j 7 (by omega) (by decide) (by omega))]; exact c⟩) (fun i j hi hj => h6' i j (by omega) (by omega)) hqx (by rw [pk_un (Ne.symm (hf 7 (by decide)))]; exact hst) (fun j hj => hf j (by omega)) a1 a2 a3) (iv_tot_h htot (by decide) (by decide))
    refine ⟨_, _, _, hR, fun P hP => nm_r exq (br_f l8 (nm_r ex ⟨hsi, hqi, ?_⟩)), fun P hP => ⟨9, br_f n80 ?_⟩⟩
    · rw [es, eq]
      exact br_t z (fi_X now rc 8 zae zal zan zat zbr zca zcl zcm zcr zen zfa zfi zho zhs zky zpa zpt zqx zra zre zrp zrs zru zse zsl zst zsu zti ztk ztr ztu zup zwe zwo zto (h := 5) hs32 (by decide) _ (nm_r (show nI 7 - 1 = nI 7 + (-1) by decide) ⟨8, X1 P 8 (by omega) ⟨p8, nm_r eux (nm_r (nI_1 7) hP)⟩⟩))
    · rw [e7, c7, ey, es, eq, c8]
      refine ⟨v79, h0, hsi, hqi, br_f (Int32.not_le.mpr z) ⟨v79, v89, nm_e (nm_r e7' (Y1 P 8 (by omega) ⟨p9, nm_r euy (nm_r (show nI 8 + 1 = nI 9 by decide) (br_t s99 ⟨h0, ?_⟩))⟩))⟩⟩
      rw [ey8, ms_rem (by omega)]
      exact fi_Y now rc 8 (nx + 1) zae zal zan zat zbr zca zcl zcm zcr zen zfa zho zhs zky zpa zpt (upd qy' p (nI nx)) zra zre zrp zrs zse zsi zsl zso zsu zst zti ztk ztr ztu zup zwe zwl zwo zto (h := 5) hs32 (by decide) _ hP
  · have hR : md_R now (nx + 1) dn B 0 0 8 (nI now, nI rc, nI 8, zse, vp_updL zto 5 (zto 5 + 1), ztu, zwe, zsl, zpa, zbr, zup, zti, zfa, zcr, zru, zsu, zfi, zrp, zrs, zca, zre, ztk, zho, zhs, upd zst q 5, zcl, zpt, zky, zwo, zra, zcm, upd zen q (nI now), zat, zan, ztr, zae, zal, zqx) (nI now, nI rc, nI (nx + 1), nI 8, zwe, zsl, zpa, zti, zfa, zcr, zsu, zsi, zwl, zbr, zup, zrp, zrs, zse, zca, zre, ztk, zho, zhs, zcl, zpt, zky, zwo, zra, upd zst q 5, zat, zan, ztr, zcm, upd zen q (nI now), zae, zal, upd zqy 8 (nI nx), vp_updL zto 5 (zto 5 + 1), ztu, zso) :=
      md_mk hset hcli hsrv hrt hfnd (iv_req_st hreq (by decide)) (iv_run_same hrun (by have := Nat.mod_le nx 32; omega) hq (by rw [hst]; decide) (by decide))
        ⟨h1, h2, h3, fun j hj => by rw [pk_un (by omega)]; exact h4 j hj, (iv_q_nx (iv_q_st hqs0 (fun j hj => hf j (by rcases hj with hj | hj <;> omega))) (by omega)).2.2.2.2.1, h6⟩ (iv_tot_h htot (by decide) (by decide))
    refine ⟨_, _, _, hR, fun P hP => nm_r exq (br_f l8 (nm_r ex ⟨hsi, hqi, ?_⟩)), fun P hP => ⟨1, br_f n80 ?_⟩⟩
    · rw [es, eq]
      exact br_f z (fi_X now rc 8 zae zal zan zat zbr zca zcl zcm zcr zen zfa zfi zho zhs zky zpa zpt zqx zra zre zrp zrs zru zse zsl zst zsu zti ztk ztr ztu zup zwe zwo zto (h := 5) hq (by decide) _ hP)
    · rw [e7, c7, ey, es, eq]
      refine ⟨v79, h0, hsi, hqi, br_t (Int32.not_lt.mp z) ⟨v89, ?_⟩⟩
      rw [c8, nI_pred]
      refine nm_e (nm_r (show nI 8 + 1 = nI 9 by decide) (br_t s99 ⟨h0, ?_⟩))
      rw [pk_us, ms_rem (by omega), hqx]
      exact fi_Y now rc 8 (nx + 1) zae zal zan zat zbr zca zcl zcm zcr zen zfa zho zhs zky zpa zpt (upd zqy 8 (nI nx)) zra zre zrp zrs zse zsi zsl zso zsu zst zti ztk ztr ztu zup zwe zwl zwo zto (h := 5) hq (by decide) _ hP
end
