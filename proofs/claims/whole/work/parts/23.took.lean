/-! took: X counts, Y sorts -/
theorem tk_pos {s : Nat → Int32} {v : Int32} {i : Nat} : ∀ m, m ≤ i → (∀ a, m ≤ a → a < i → v < s a) → ∃ j, j ≤ i ∧ (∀ a, j ≤ a → a < i → v < s a) ∧ (j = 0 ∨ ¬ v < s (j - 1)) := by
  intro m
  induction m with
  | zero => intro _ h; exact ⟨0, by omega, h, Or.inl rfl⟩
  | succ m ih =>
    intro hm h
    by_cases z : v < s m
    · exact ih (by omega) (fun a ha hi => by
        by_cases e : a = m
        · rw [e]; exact z
        · exact h a (by omega) hi)
    · exact ⟨m + 1, hm, h, Or.inr z⟩
theorem tk_srt (t : Nat → Int32) : ∀ n, ∃ s, tk_St t n s := by
  intro n
  induction n with
  | zero => exact ⟨t, tk_St0 t t⟩
  | succ n ih =>
    obtain ⟨s, h⟩ := ih
    obtain ⟨j, hj, h4, h5⟩ := tk_pos (s := s) (v := t n) (i := n) n (Nat.le_refl _) (fun a ha hi => by omega)
    refine ⟨fun a => if a < j then s a else if a = j then t n else s (a - 1), tk_step h rfl hj (fun a ha => ?_) ?_ (fun a ha hi => ?_) h4 h5⟩
    · rw [if_pos ha]
    · rw [if_neg (by omega), if_pos rfl]
    · rw [if_neg (by omega), if_neg (by omega)]
section
variable (now rc ql nx : Nat) (zae zal zan zat zbr zca zcl zcm zcr zen zfa zfi zho zhs zky zpa zpt zqx zqy zra zre zrp zrs zru zse zsi zsl zso zst zsu zsy zti ztk ztr ztu zup zwe zwl zwo : Nat → Int32) (zto : Nat → Int64)
theorem tx_in {n i kk : Nat} (hn : n ≤ 64) (hi : i < n) (hk : kk < n) (P : Int32 → Prop) (J : Int32 → Prop) (hP : tk_rk ztu i n = kk → P (ztu i)) (hJ : ¬ tk_rk ztu i n = kk → J (nI (i + 1))) :
    ∀ d j f : Nat, j + d = n → d < f → wX_took_57 P J (nI kk) (nI n) (nI i) (nI now) (nI rc) (nI ql) zse zto ztu zwe zsl zpa zbr zup zti zfa zcr zru zsu zfi zrp zrs zca zre ztk zho zhs zst zcl zpt zky zwo zra zcm zen zat zan ztr zae zal zqx f (nI (tk_rk ztu i j)) (nI j) := by
  have i64 : vp_in (nI i) 64 := vp_in_nI (by omega) (by decide)
  have ei : (nI i).toNatClampNeg = i := nI_clamp (by omega)
  intro d
  induction d with
  | zero =>
    intro j f hj hf
    have e : j = n := by omega
    subst e
    have hr := tk_rk_le ztu i j
    obtain ⟨m, rfl, hm⟩ := fu_m hf
    refine br_t Int32.le_rfl ?_
    by_cases z : tk_rk ztu i j = kk
    · refine br_t (congrArg nI z) ⟨i64, ?_⟩
      rw [ei]
      exact hP z
    · exact br_f (fun y => z ((nI_eq (by omega) (by omega)).mp y)) (nm_r (nI_1 i) (hJ z))
  | succ d ih =>
    intro j f hj hf
    have j64 : vp_in (nI j) 64 := vp_in_nI (by omega) (by decide)
    have ej : (nI j).toNatClampNeg = j := nI_clamp (by omega)
    obtain ⟨m, rfl, hm⟩ := fu_m hf
    have ih' := ih (j + 1) m (by omega) (by omega)
    refine br_f (nI_ge (by omega) (by omega)) ⟨j64, i64, ?_⟩
    rw [ei, ej]
    by_cases a : ztu j < ztu i
    · rw [tk_rk_s, if_pos (Or.inl a)] at ih'
      exact br_t a (nm_r (nI_1 _) (nm_r (nI_1 j) ih'))
    · refine br_f a ⟨j64, i64, ?_⟩
      by_cases b : ztu j = ztu i
      · refine br_t b (pk_le i j (fun c => ?_) (fun c => ?_))
        · rw [tk_rk_s, if_neg (fun z => z.elim a (fun z => by omega))] at ih'
          exact nm_r (nI_1 j) ih'
        · rw [tk_rk_s, if_pos (Or.inr ⟨b, c⟩)] at ih'
          exact nm_r (nI_1 _) (nm_r (nI_1 j) ih')
      · rw [tk_rk_s, if_neg (fun z => z.elim a (fun z => b z.1))] at ih'
        exact br_f b (nm_r (nI_1 j) ih')
theorem tx_out {n kk : Nat} (hn : n ≤ 64) (hk : kk < n) (P : Int32 → Prop) (hP : ∀ i, i < n → tk_rk ztu i n = kk → P (ztu i)) :
    ∀ d i f : Nat, i + d = n → (∃ i', i ≤ i' ∧ i' < n ∧ tk_rk ztu i' n = kk) → d < f → wX_took_46 P (nI kk) (nI n) (nI now) (nI rc) (nI ql) zse zto ztu zwe zsl zpa zbr zup zti zfa zcr zru zsu zfi zrp zrs zca zre ztk zho zhs zst zcl zpt zky zwo zra zcm zen zat zan ztr zae zal zqx f (nI i) := by
  intro d
  induction d with
  | zero =>
    intro i f hi he _
    obtain ⟨i', a, b, _⟩ := he
    omega
  | succ d ih =>
    intro i f hi he hf
    obtain ⟨m, rfl, hm⟩ := fu_m hf
    refine br_f (nI_ge (by omega) (by omega)) ⟨n + 1, tx_in now rc ql zae zal zan zat zbr zca zcl zcm zcr zen zfa zfi zho zhs zky zpa zpt zqx zra zre zrp zrs zru zse zsl zst zsu zti ztk ztr ztu zup zwe zwo zto hn (by omega) hk P _ (hP i (by omega)) (fun z => ih (i + 1) m (by omega) ?_ (by omega)) n 0 (n + 1) (by omega) (by omega)⟩
    obtain ⟨i', a, b, c⟩ := he
    refine ⟨i', ?_, b, c⟩
    by_cases e : i = i'
    · rw [← e] at c; exact absurd c z
    · omega
theorem ty_in {n i kk : Nat} {s : Nat → Int32} (hn : n ≤ 64) (hi : i < n) (h : tk_St ztu i s) (P : Int32 → SY → Prop) (J : Int32 → (Nat → Int32) → (Nat → Int32) → (Nat → Int32) → (Nat → Int32) → (Nat → Int32) → (Nat → Int32) → (Nat → Int32) → (Nat → Int32) → (Nat → Int32) → (Nat → Int32) → (Nat → Int32) → (Nat → Int32) → (Nat → Int32) → (Nat → Int32) → (Nat → Int32) → (Nat → Int32) → (Nat → Int32) → (Nat → Int32) → (Nat → Int32) → (Nat → Int32) → (Nat → Int32) → (Nat → Int32) → (Nat → Int32) → (Nat → Int32) → (Nat → Int32) → (Nat → Int32) → (Nat → Int32) → (Nat → Int32) → (Nat → Int32) → (Nat → Int32) → (Nat → Int32) → (Nat → Int32) → (Nat → Int32) → (Nat → Int64) → (Nat → Int32) → (Nat → Int32) → Prop)
    (hJ : ∀ s', tk_St ztu (i + 1) s' → J (nI (i + 1)) zwe zsl zpa zti zfa zcr zsu zsi zwl zbr zup zrp zrs zse zca zre ztk zho zhs zcl zpt zky zwo zra zsy zat zan ztr zcm zen zae zal zqy zto ztu s') : ∀ j : Nat, j ≤ i → ∀ s' : Nat → Int32, (∀ a, a < j → s' a = s a) → (∀ a, j < a → a ≤ i → s' a = s (a - 1)) → (∀ a, j ≤ a → a < i → ztu i < s a) →
    ∀ f : Nat, j < f → wY_took_64 P J (nI kk) (nI n) (nI i) (ztu i) (nI now) (nI rc) (nI nx) (nI ql) f (nI j) zwe zsl zpa zti zfa zcr zsu zsi zwl zbr zup zrp zrs zse zca zre ztk zho zhs zcl zpt zky zwo zra zsy zat zan ztr zcm zen zae zal zqy zto ztu s' := by
  intro j
  induction j with
  | zero =>
    intro hj s' a1 a2 a3 f hf
    obtain ⟨m, rfl, hm⟩ := fu_m hf
    have e : upd s' (nI 0).toNatClampNeg (ztu i) = upd s' 0 (ztu i) := by rw [nI_clamp (by decide)]
    exact br_t (show nI 0 ≤ 0 by decide) ⟨vp_in_nI (by decide) (by decide), nm_r e (nm_r (nI_1 i) (hJ _ (tk_step h rfl hj (fun a ha => by omega) pk_us (fun a h1 h2 => by rw [pk_un (by omega)]; exact a2 a h1 h2) a3 (Or.inl rfl))))⟩
  | succ j ih =>
    intro hj s' a1 a2 a3 f hf
    obtain ⟨m, rfl, hm⟩ := fu_m hf
    have ej : (nI j).toNatClampNeg = j := nI_clamp (by omega)
    have ej1 : (nI (j + 1)).toNatClampNeg = j + 1 := nI_clamp (by omega)
    have j64 : vp_in (nI j) 64 := vp_in_nI (by omega) (by decide)
    have j65 : vp_in (nI (j + 1)) 64 := vp_in_nI (by omega) (by decide)
    refine br_f (nI_nle (by omega) (by omega)) ?_
    rw [nI_pred, ej, ej1]
    refine ⟨j64, ?_⟩
    by_cases z : s' j ≤ ztu i
    · have z' : ¬ ztu i < s (j + 1 - 1) := by rw [Nat.add_sub_cancel, ← a1 j (by omega)]; exact Int32.not_lt.mpr z
      exact br_t z ⟨j65, nm_e (nm_r (nI_1 i) (hJ _ (tk_step h rfl hj (fun a ha => by rw [pk_un (by omega)]; exact a1 a ha) pk_us (fun a h1 h2 => by rw [pk_un (by omega)]; exact a2 a h1 h2) a3 (Or.inr z'))))⟩
    · refine br_f z ⟨j64, j65, nm_e (nm_r (pk_m1 j) (ih (by omega) (upd s' (j + 1) (s' j)) (fun a ha => by rw [pk_un (by omega)]; exact a1 a (by omega)) (fun a h1 h2 => ?_) (fun a h1 h2 => ?_) m (by omega)))⟩
      · by_cases e : a = j + 1
        · rw [e, pk_us, Nat.add_sub_cancel]; exact a1 j (by omega)
        · rw [pk_un e]; exact a2 a (by omega) h2
      · by_cases e : a = j
        · rw [e, ← a1 j (by omega)]; exact Int32.not_le.mp z
        · exact a3 a (by omega) h2
theorem ty_out {n kk : Nat} (hn : n ≤ 64) (hk : kk < n) (P : Int32 → SY → Prop) (hP : ∀ s, tk_St ztu n s → P (s kk) (nI now, nI rc, nI nx, nI ql, zwe, zsl, zpa, zti, zfa, zcr, zsu, zsi, zwl, zbr, zup, zrp, zrs, zse, zca, zre, ztk, zho, zhs, zcl, zpt, zky, zwo, zra, zsy, zat, zan, ztr, zcm, zen, zae, zal, zqy, zto, ztu, s)) :
    ∀ d i : Nat, i + d = n → ∀ s, tk_St ztu i s → ∀ f : Nat, d < f → wY_took_48 P (nI kk) (nI n) (nI now) (nI rc) (nI nx) (nI ql) f (nI i) zwe zsl zpa zti zfa zcr zsu zsi zwl zbr zup zrp zrs zse zca zre ztk zho zhs zcl zpt zky zwo zra zsy zat zan ztr zcm zen zae zal zqy zto ztu s := by
  have k64 : vp_in (nI kk) 64 := vp_in_nI (by omega) (by decide)
  have ek : (nI kk).toNatClampNeg = kk := nI_clamp (by omega)
  intro d
  induction d with
  | zero =>
    intro i hi s h f hf
    have e : i = n := by omega
    subst e
    obtain ⟨m, rfl, hm⟩ := fu_m hf
    refine br_t Int32.le_rfl ⟨k64, ?_⟩
    rw [ek]
    exact hP s h
  | succ d ih =>
    intro i hi s h f hf
    have i64 : vp_in (nI i) 64 := vp_in_nI (by omega) (by decide)
    have ei : ztu (nI i).toNatClampNeg = ztu i := by rw [nI_clamp (by omega)]
    obtain ⟨m, rfl, hm⟩ := fu_m hf
    exact br_f (nI_ge (by omega) (by omega)) ⟨i64, nm_r ei ⟨i + 1, ty_in now rc ql nx zae zal zan zat zbr zca zcl zcm zcr zen zfa zho zhs zky zpa zpt zqy zra zre zrp zrs zse zsi zsl zsu zsy zti ztk ztr ztu zup zwe zwl zwo zto hn (by omega) h P _ (fun s' h' => ih (i + 1) (by omega) s' h' m (by omega)) i (Nat.le_refl _) s (fun _ _ => rfl) (fun a h1 h2 => by omega) (fun a h1 h2 => by omega) (i + 1) (by omega)⟩⟩
theorem to_X {n : Nat} (hn : n ≤ 64) (v1 : Int32) (P : Int32 → Prop) (h1 : v1 = -1 → P (nI n)) (h2 : ¬ v1 = -1 → (v1 < 0 ∨ nI n ≤ v1) → P (-1)) (h3 : ∀ kk, kk < n → v1 = nI kk → ∀ i, i < n → tk_rk ztu i n = kk → P (ztu i)) : wX_took_25 P v1 (nI n) (nI now) (nI rc) (nI ql) zse zto ztu zwe zsl zpa zbr zup zti zfa zcr zru zsu zfi zrp zrs zca zre ztk zho zhs zst zcl zpt zky zwo zra zcm zen zat zan ztr zae zal zqx := by
  by_cases m : v1 = -1
  · exact br_t m (h1 m)
  refine br_f m ?_
  rcases pk_ix v1 (n := n) (by omega) with h | h | ⟨kk, hk, rfl⟩
  · exact br_t h (h2 m (Or.inl h))
  · by_cases z : v1 < 0
    · exact br_t z (h2 m (Or.inl z))
    · exact br_f z (br_f (Int32.not_lt.mpr h) (h2 m (Or.inr h)))
  · obtain ⟨s, hs⟩ := tk_srt ztu n
    obtain ⟨i, hi, e⟩ := tk_ex hs hk
    exact br_f (nI_pos (by omega)) (br_t (nI_lt hk (by omega)) ⟨n + 1, tx_out now rc ql zae zal zan zat zbr zca zcl zcm zcr zen zfa zfi zho zhs zky zpa zpt zqx zra zre zrp zrs zru zse zsl zst zsu zti ztk ztr ztu zup zwe zwo zto hn hk P (h3 kk hk rfl) n 0 (n + 1) (by omega) ⟨i, by omega, hi, e⟩ (by omega)⟩)
theorem to_Y {n : Nat} (hn : n ≤ 64) (v1 : Int32) (P : Int32 → SY → Prop) (h1 : v1 = -1 → P (nI n) (nI now, nI rc, nI nx, nI ql, zwe, zsl, zpa, zti, zfa, zcr, zsu, zsi, zwl, zbr, zup, zrp, zrs, zse, zca, zre, ztk, zho, zhs, zcl, zpt, zky, zwo, zra, zsy, zat, zan, ztr, zcm, zen, zae, zal, zqy, zto, ztu, zso)) (h2 : ¬ v1 = -1 → (v1 < 0 ∨ nI n ≤ v1) → P (-1) (nI now, nI rc, nI nx, nI ql, zwe, zsl, zpa, zti, zfa, zcr, zsu, zsi, zwl, zbr, zup, zrp, zrs, zse, zca, zre, ztk, zho, zhs, zcl, zpt, zky, zwo, zra, zsy, zat, zan, ztr, zcm, zen, zae, zal, zqy, zto, ztu, zso)) (h3 : ∀ kk, kk < n → v1 = nI kk → ∀ s, tk_St ztu n s → P (s kk) (nI now, nI rc, nI nx, nI ql, zwe, zsl, zpa, zti, zfa, zcr, zsu, zsi, zwl, zbr, zup, zrp, zrs, zse, zca, zre, ztk, zho, zhs, zcl, zpt, zky, zwo, zra, zsy, zat, zan, ztr, zcm, zen, zae, zal, zqy, zto, ztu, s)) : wY_took_25 P v1 (nI n) (nI now) (nI rc) (nI nx) (nI ql) zwe zsl zpa zti zfa zcr zsu zsi zwl zbr zup zrp zrs zse zca zre ztk zho zhs zcl zpt zky zwo zra zsy zat zan ztr zcm zen zae zal zqy zto ztu zso := by
  by_cases m : v1 = -1
  · exact br_t m (h1 m)
  refine br_f m ?_
  by_cases z : v1 < 0
  · exact rd_y0 (Or.inl z) (br_t rfl (h2 m (Or.inl z)))
  obtain ⟨kk, hk, rfl⟩ := nI_of z
  by_cases y : kk < n
  · exact rd_y1 z (fun q => by have := (qd_lt (by omega) hk).mp q; omega) (br_f rd_1n0 ⟨n + 1, ty_out now rc ql nx zae zal zan zat zbr zca zcl zcm zcr zen zfa zho zhs zky zpa zpt zqy zra zre zrp zrs zse zsi zsl zsu zsy zti ztk ztr ztu zup zwe zwl zwo zto hn y P (h3 kk y rfl) n 0 (by omega) zso (tk_St0 _ _) (n + 1) (by omega)⟩)
  · exact rd_y0 (Or.inr ((qd_lt (by omega) hk).mpr (by omega))) (br_t rfl (h2 m (Or.inr (nI_le (by omega) hk))))
end
theorem i_vc_took {k : Nat} {u : SX} {v : SY} (I : i_Rel k u v) (hk : k + 6 ≤ 3072) (v1 : Int32) : wpX_took (fun r => wpY_took (fun r' v' => r' = r ∧ i_Rel (k + 6) u v') v v1) u v1 := by
  have I' := i_up I
  obtain ⟨now, nx, dn, w, h1, h2, h3, hR⟩ := I
  obtain ⟨rc, qn, zae, zal, zan, zat, zbr, zca, zcl, zcm, zcr, zen, zfa, zfi, zho, zhs, zky, zpa, zpt, zqx, zqy, zra, zre, zrp, zrs, zru, zse, zsi, zsl, zso, zst, zsu, zti, ztk, ztr, ztu, zup, zwe, zwl, zwo, zto, rfl, rfl, hset, hcli, hsrv, hrt, hfnd, hreq, hrun, hqs, htot⟩ := hR
  have ht := htot.2
  have eX : ∀ P : Int32 → Prop, wX_took_25 P v1 (nI (min dn 64)) (nI now) (nI rc) (nI w) zse zto ztu zwe zsl zpa zbr zup zti zfa zcr zru zsu zfi zrp zrs zca zre ztk zho zhs zst zcl zpt zky zwo zra zcm zen zat zan ztr zae zal zqx → wpX_took P (nI now, nI rc, nI w, zse, zto, ztu, zwe, zsl, zpa, zbr, zup, zti, zfa, zcr, zru, zsu, zfi, zrp, zrs, zca, zre, ztk, zho, zhs, zst, zcl, zpt, zky, zwo, zra, zcm, zen, zat, zan, ztr, zae, zal, zqx) v1 := by
    intro P hP
    by_cases z : 64 ≤ dn
    · rw [show min dn 64 = 64 from by omega] at hP
      exact br_t (by rw [ht]; exact (pk_lLE (a := 64) (by decide) (by omega)).mpr z) hP
    · rw [show min dn 64 = dn from by omega] at hP
      refine br_f (fun y => z (by rw [ht] at y; exact (pk_lLE (a := 64) (by decide) (by omega)).mp y)) ?_
      rw [ht, lN_i]
      exact hP
  have eY : ∀ P : Int32 → SY → Prop, wY_took_25 P v1 (nI (min dn 64)) (nI now) (nI rc) (nI nx) (nI w) zwe zsl zpa zti zfa zcr zsu zsi zwl zbr zup zrp zrs zse zca zre ztk zho zhs zcl zpt zky zwo zra zst zat zan ztr zcm zen zae zal zqy zto ztu zso → wpY_took P (nI now, nI rc, nI nx, nI w, zwe, zsl, zpa, zti, zfa, zcr, zsu, zsi, zwl, zbr, zup, zrp, zrs, zse, zca, zre, ztk, zho, zhs, zcl, zpt, zky, zwo, zra, zst, zat, zan, ztr, zcm, zen, zae, zal, zqy, zto, ztu, zso) v1 := by
    intro P hP
    by_cases z : dn ≤ 64
    · rw [show min dn 64 = dn from by omega] at hP
      refine br_t (by rw [ht]; exact (pk_lLE (b := 64) (by omega) (by decide)).mpr z) ?_
      rw [ht, lN_i]
      exact hP
    · rw [show min dn 64 = 64 from by omega] at hP
      exact br_f (fun y => z (by rw [ht] at y; exact (pk_lLE (b := 64) (by omega) (by decide)).mp y)) hP
  have hY : ∀ r : Int32, (v1 = -1 → nI (min dn 64) = r) → (¬ v1 = -1 → (v1 < 0 ∨ nI (min dn 64) ≤ v1) → -1 = r) → (∀ kk, kk < min dn 64 → v1 = nI kk → ∀ s, tk_St ztu (min dn 64) s → s kk = r) →
      wpY_took (fun r' v' => r' = r ∧ i_Rel (k + 6) (nI now, nI rc, nI w, zse, zto, ztu, zwe, zsl, zpa, zbr, zup, zti, zfa, zcr, zru, zsu, zfi, zrp, zrs, zca, zre, ztk, zho, zhs, zst, zcl, zpt, zky, zwo, zra, zcm, zen, zat, zan, ztr, zae, zal, zqx) v') (nI now, nI rc, nI nx, nI w, zwe, zsl, zpa, zti, zfa, zcr, zsu, zsi, zwl, zbr, zup, zrp, zrs, zse, zca, zre, ztk, zho, zhs, zcl, zpt, zky, zwo, zra, zst, zat, zan, ztr, zcm, zen, zae, zal, zqy, zto, ztu, zso) v1 := fun r g1 g2 g3 =>
    eY _ (to_Y now rc w nx zae zal zan zat zbr zca zcl zcm zcr zen zfa zho zhs zky zpa zpt zqy zra zre zrp zrs zse zsi zsl zso zsu zst zti ztk ztr ztu zup zwe zwl zwo zto (by omega) v1 _ (fun m => ⟨g1 m, I'⟩) (fun m b => ⟨g2 m b, I'⟩) (fun kk hk' e s hs => ⟨g3 kk hk' e s hs, now, nx, dn, w, by omega, by omega, h3, md_mk hset hcli hsrv hrt hfnd hreq hrun hqs htot⟩))
  refine eX _ (to_X now rc w zae zal zan zat zbr zca zcl zcm zcr zen zfa zfi zho zhs zky zpa zpt zqx zra zre zrp zrs zru zse zsl zst zsu zti ztk ztr ztu zup zwe zwo zto (by omega) v1 _ (fun m => hY _ (fun _ => rfl) (fun m' => absurd m m') (fun kk hk' e => absurd (e.symm.trans m) (ms_nI_m1 (by omega)))) (fun m b => hY _ (fun m' => absurd m' m) (fun _ _ => rfl) (fun kk hk' e s hs => ?_)) (fun kk hk' e i hi er => hY _ (fun m' => absurd (e.symm.trans m') (ms_nI_m1 (by omega))) (fun _ b => ?_) (fun kk2 hk2 e2 s hs => ?_)))
  · rcases b with b | b
    · rw [e] at b; exact absurd b (nI_pos (by omega))
    · rw [e] at b; have := (nI_leI (by omega) (by omega)).mp b; omega
  · rcases b with b | b
    · rw [e] at b; exact absurd b (nI_pos (by omega))
    · rw [e] at b; have := (nI_leI (by omega) (by omega)).mp b; omega
  · have ek : kk2 = kk := (nI_eq (by omega) (by omega)).mp (e2.symm.trans e)
    rw [ek]
    exact (tk_uniq hs hi hk' er).symm
