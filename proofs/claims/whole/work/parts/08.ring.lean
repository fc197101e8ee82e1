/-! the ring -/
section
variable (now rc ql nx : Nat) (zae zal zan zat zbr zca zcl zcm zcr zen zfa zfi zho zhs zky zpa zpt zqx zqy zra zre zrp zrs zru zse zsi zsl zso zst zsu zsy zti ztk ztr ztu zup zwe zwl zwo : Nat → Int32) (zto : Nat → Int64)
theorem rx_in (b : Nat → Bool) (w : Nat → Nat) (hw : ∀ s, s < 6 → w s < 10 ∧ zwe s = nI (w s)) {key S : Nat} (hk : key < 256) (hS : S < 6) (hb : b S = true) (P : Int32 → Prop) (J : Int32 → Int32 → Int32 → Prop)
    (hJ : ∀ c d, rg_B b w key (S + 1) c d → J c (nI d) (nI (S + 1))) : ∀ e j : Nat, j + e = w S → ∀ (c : Int32) (d n : Nat), rg_I b w key S j c d → e < n → wX_chooseOnRing_29 P J (mk_m b 6) (nI key) (nI S) (nI now) (nI rc) (nI ql) zse zto ztu zwe zsl zpa zbr zup zti zfa zcr zru zsu zfi zrp zrs zca zre ztk zho zhs zst zcl zpt zky zwo zra zcm zen zat zan ztr zae zal zqx n c (nI d) (nI j) := by
  have hi : vp_in (nI S) 6 := vp_in_nI hS (by decide)
  have es : (nI S).toNatClampNeg = S := nI_clamp (by omega)
  have hw1 := (hw S hS).1
  have hw2 := (hw S hS).2
  intro e
  induction e with
  | zero =>
    intro j hj c d n h hn
    have ej : j = w S := by omega
    subst ej
    obtain ⟨m, rfl, hm⟩ := fu_m hn
    refine ⟨hi, ?_⟩
    rw [es, hw2]
    exact br_t Int32.le_rfl (nm_r (nI_1 S) (hJ c d (rg_out h)))
  | succ e ih =>
    intro j hj c d n h hn
    have hd := h.1
    have hl := rg_D_lt key S j
    have e1 : ((nI S * 37 + nI j * 101) + 17) * 59 = nI (rg_P S j) := rg_pt S j
    have e2 : (nI (rg_P S j) - nI key) &&& 255 = nI (rg_D key S j) := rg_dx hS (by omega) hk
    obtain ⟨m, rfl, hm⟩ := fu_m hn
    refine ⟨hi, ?_⟩
    rw [es, hw2]
    refine br_f (nI_ge (by omega) (by omega)) (nm_r e1 (nm_r e2 (pk_le d (rg_D key S j) (fun z => ?_) (fun z => ?_))))
    · exact nm_r (nI_1 j) (ih (j + 1) (by omega) c d m (rg_no h z) (by omega))
    · exact nm_r (nI_1 j) (ih (j + 1) (by omega) (nI S) (rg_D key S j) m (rg_yes h hb (by omega) z) (by omega))
theorem rx_out (b : Nat → Bool) (w : Nat → Nat) (hw : ∀ s, s < 6 → w s < 10 ∧ zwe s = nI (w s)) {key : Nat} (hk : key < 256) (P : Int32 → Prop)
    (hP : ∀ c d, rg_B b w key 6 c d → P c) : ∀ e S : Nat, S + e = 6 → ∀ (c : Int32) (d n : Nat), rg_B b w key S c d → e < n → wX_chooseOnRing_10 P (mk_m b 6) (nI key) (nI now) (nI rc) (nI ql) zse zto ztu zwe zsl zpa zbr zup zti zfa zcr zru zsu zfi zrp zrs zca zre ztk zho zhs zst zcl zpt zky zwo zra zcm zen zat zan ztr zae zal zqx n c (nI d) (nI S) := by
  intro e
  induction e with
  | zero =>
    intro S hS c d n h hn
    have e6 : S = 6 := by omega
    subst e6
    exact (by obtain ⟨m, rfl, hm_⟩ := fu_m hn; exact br_t (by decide) (hP c d h))
  | succ e ih =>
    intro S hS c d n h hn
    have hs6 : S < 6 := by omega
    have h6 : ¬ (6 : Int32) ≤ nI S := nI_ge (b := 6) hs6 (by decide)
    obtain ⟨m, rfl, hm⟩ := fu_m hn
    refine br_f h6 ?_
    cases eb : b S with
    | false => exact br_t (mk_b0 hs6 eb) (nm_r (nI_1 S) (ih (S + 1) (by omega) c d m (rg_skip h eb) (by omega)))
    | true => exact br_f (mk_b1' hs6 eb) ⟨w S + 1, rx_in now rc ql zae zal zan zat zbr zca zcl zcm zcr zen zfa zfi zho zhs zky zpa zpt zqx zra zre zrp zrs zru zse zsl zst zsu zti ztk ztr ztu zup zwe zwo zto b w hw hk hs6 eb P _ (fun c' d' h' => ih (S + 1) (by omega) c' d' m h' (by omega)) (w S) 0 (by omega) c d _ (rg_in h) (by omega)⟩
/-- j runs over the points of S, none is at k -/
theorem ry_pass (b : Nat → Bool) (w : Nat → Nat) (hw : ∀ s, s < 6 → w s < 10 ∧ zwe s = nI (w s)) {key k S : Nat} (hk : key < 256) (hk' : k < 256) (hS : S < 6) (hno : b S = true → ∀ j, j < w S → rg_D key S j ≠ k) (P : Int32 → Prop) (J2 J21 : Int32 → Prop)
    (hJ : J21 (nI (S + 1))) : ∀ e j : Nat, j + e = w S → ∀ n : Nat, e < n → wY_ring_31 P J2 J21 (mk_m b 6) (nI key) (nI k) (nI ((key + k) % 256)) (nI S) (nI now) (nI rc) (nI nx) (nI ql) zwe zsl zpa zti zfa zcr zsu zsi zwl zbr zup zrp zrs zse zca zre ztk zho zhs zcl zpt zky zwo zra zsy zat zan ztr zcm zen zae zal zqy zto ztu zso n (nI j) := by
  have hi : vp_in (nI S) 6 := vp_in_nI hS (by decide)
  have es : (nI S).toNatClampNeg = S := nI_clamp (by omega)
  have hw1 := (hw S hS).1
  have hw2 := (hw S hS).2
  have h256 : ¬ (256 : Int32) = 0 := by decide
  intro e
  induction e with
  | zero =>
    intro j hj n hn
    have ej : j = w S := by omega
    subst ej
    obtain ⟨m, rfl, hm⟩ := fu_m hn
    refine ⟨hi, ?_⟩
    rw [es, hw2]
    exact br_t Int32.le_rfl (nm_r (nI_1 S) hJ)
  | succ e ih =>
    intro j hj n hn
    obtain ⟨m, rfl, hm⟩ := fu_m hn
    refine ⟨hi, ?_⟩
    rw [es, hw2]
    refine br_f (nI_ge (by omega) (by omega)) ?_
    cases eb : b S with
    | false => exact br_f (mk_b0' hS eb) (nm_r (nI_1 j) (ih (j + 1) (by omega) m (by omega)))
    | true =>
      have hlo := rg_lo S j
      have hhi := rg_hi (s := S) (j := j) hS (by omega)
      have e1 : ((nI S * 37 + nI j * 101) + 17) * 59 = nI (rg_P S j) := rg_pt S j
      have e2 : nI (rg_P S j) - nI (rg_P S j) / 256 * 256 = nI (rg_P S j % 256) := pk_rem (d := 256) (by omega) (by decide) (by decide)
      refine br_t (mk_b1 hS eb) ⟨h256, ?_⟩
      rw [e1, e2]
      exact br_f (fun z => hno eb j (by omega) ((rg_m hk hk').mp ((nI_eq (by omega) (by omega)).mp z))) (nm_r (nI_1 j) (ih (j + 1) (by omega) m (by omega)))
theorem ry_hit (b : Nat → Bool) (w : Nat → Nat) (hw : ∀ s, s < 6 → w s < 10 ∧ zwe s = nI (w s)) {key k S : Nat} (hk : key < 256) (hk' : k < 256) (hS : S < 6) (hb : b S = true) (P : Int32 → Prop) (J2 J21 : Int32 → Prop)
    (hP : P (nI S)) : ∀ e j : Nat, (∃ i, i = j + e ∧ i < w S ∧ rg_D key S i = k) → ∀ n : Nat, e < n → wY_ring_31 P J2 J21 (mk_m b 6) (nI key) (nI k) (nI ((key + k) % 256)) (nI S) (nI now) (nI rc) (nI nx) (nI ql) zwe zsl zpa zti zfa zcr zsu zsi zwl zbr zup zrp zrs zse zca zre ztk zho zhs zcl zpt zky zwo zra zsy zat zan ztr zcm zen zae zal zqy zto ztu zso n (nI j) := by
  have hi : vp_in (nI S) 6 := vp_in_nI hS (by decide)
  have es : (nI S).toNatClampNeg = S := nI_clamp (by omega)
  have hw1 := (hw S hS).1
  have hw2 := (hw S hS).2
  have h256 : ¬ (256 : Int32) = 0 := by decide
  intro e
  induction e with
  | zero =>
    intro j hj n hn
    obtain ⟨i, hij, hiw, hd⟩ := hj
    rw [show i = j from by omega] at hiw hd
    have hlo := rg_lo S j
    have hhi := rg_hi (s := S) (j := j) hS (by omega)
    have e1 : ((nI S * 37 + nI j * 101) + 17) * 59 = nI (rg_P S j) := rg_pt S j
    have e2 : nI (rg_P S j) - nI (rg_P S j) / 256 * 256 = nI (rg_P S j % 256) := pk_rem (d := 256) (by omega) (by decide) (by decide)
    obtain ⟨m, rfl, hm⟩ := fu_m hn
    refine ⟨hi, ?_⟩
    rw [es, hw2]
    refine br_f (nI_ge (by omega) (by omega)) (br_t (mk_b1 hS hb) ⟨h256, ?_⟩)
    rw [e1, e2]
    exact br_t (congrArg nI ((rg_m hk hk').mpr hd)) hP
  | succ e ih =>
    intro j hj n hn
    obtain ⟨i, hij, hiw, hd⟩ := hj
    have hlo := rg_lo S j
    have hhi := rg_hi (s := S) (j := j) hS (by omega)
    have e1 : ((nI S * 37 + nI j * 101) + 17) * 59 = nI (rg_P S j) := rg_pt S j
    have e2 : nI (rg_P S j) - nI (rg_P S j) / 256 * 256 = nI (rg_P S j % 256) := pk_rem (d := 256) (by omega) (by decide) (by decide)
    obtain ⟨m, rfl, hm⟩ := fu_m hn
    refine ⟨hi, ?_⟩
    rw [es, hw2]
    refine br_f (nI_ge (by omega) (by omega)) (br_t (mk_b1 hS hb) ⟨h256, ?_⟩)
    rw [e1, e2]
    by_cases z : nI (rg_P S j % 256) = nI ((key + k) % 256)
    · exact br_t z hP
    · exact br_f z (nm_r (nI_1 j) (ih (j + 1) ⟨i, by omega, hiw, hd⟩ m (by omega)))
theorem rz_pass (b : Nat → Bool) (w : Nat → Nat) (hw : ∀ s, s < 6 → w s < 10 ∧ zwe s = nI (w s)) {key k : Nat} (hk : key < 256) (hk' : k < 256) (hno : ∀ s, s < 6 → b s = true → ∀ j, j < w s → rg_D key s j ≠ k) (P : Int32 → Prop) (J2 : Int32 → Prop)
    (hJ : J2 (nI (k + 1))) : ∀ e S : Nat, S + e = 6 → ∀ n : Nat, e < n → wY_ring_21 P J2 (mk_m b 6) (nI key) (nI k) (nI ((key + k) % 256)) (nI now) (nI rc) (nI nx) (nI ql) zwe zsl zpa zti zfa zcr zsu zsi zwl zbr zup zrp zrs zse zca zre ztk zho zhs zcl zpt zky zwo zra zsy zat zan ztr zcm zen zae zal zqy zto ztu zso n (nI S) := by
  intro e
  induction e with
  | zero =>
    intro S hS n hn
    have e6 : S = 6 := by omega
    subst e6
    exact (by obtain ⟨m, rfl, hm_⟩ := fu_m hn; exact br_t (by decide) (nm_r (nI_1 k) hJ))
  | succ e ih =>
    intro S hS n hn
    have hs6 : S < 6 := by omega
    have h6 : ¬ (6 : Int32) ≤ nI S := nI_ge (b := 6) hs6 (by decide)
    exact (by obtain ⟨m, rfl, hm⟩ := fu_m hn; exact br_f h6 ⟨w S + 1, ry_pass now rc ql nx zae zal zan zat zbr zca zcl zcm zcr zen zfa zho zhs zky zpa zpt zqy zra zre zrp zrs zse zsi zsl zso zsu zsy zti ztk ztr ztu zup zwe zwl zwo zto b w hw hk hk' hs6 (hno S hs6) P J2 _ (ih (S + 1) (by omega) m (by omega)) (w S) 0 (by omega) _ (by omega)⟩)
theorem rz_hit (b : Nat → Bool) (w : Nat → Nat) (hw : ∀ s, s < 6 → w s < 10 ∧ zwe s = nI (w s)) {key k E : Nat} (hk : key < 256) (hk' : k < 256) (hE : E < 6) (hb : b E = true) (hj : ∃ j, j < w E ∧ rg_D key E j = k) (hno : ∀ s, s < E → b s = true → ∀ j, j < w s → rg_D key s j ≠ k) (P : Int32 → Prop) (J2 : Int32 → Prop)
    (hP : P (nI E)) : ∀ e S : Nat, S + e = E → ∀ n : Nat, e < n → wY_ring_21 P J2 (mk_m b 6) (nI key) (nI k) (nI ((key + k) % 256)) (nI now) (nI rc) (nI nx) (nI ql) zwe zsl zpa zti zfa zcr zsu zsi zwl zbr zup zrp zrs zse zca zre ztk zho zhs zcl zpt zky zwo zra zsy zat zan ztr zcm zen zae zal zqy zto ztu zso n (nI S) := by
  intro e
  induction e with
  | zero =>
    intro S hS n hn
    have eS : S = E := by omega
    subst eS
    obtain ⟨j, hj1, hj2⟩ := hj
    exact (by obtain ⟨m, rfl, hm_⟩ := fu_m hn; exact br_f (nI_ge (b := 6) hE (by decide)) ⟨j + 1, ry_hit now rc ql nx zae zal zan zat zbr zca zcl zcm zcr zen zfa zho zhs zky zpa zpt zqy zra zre zrp zrs zse zsi zsl zso zsu zsy zti ztk ztr ztu zup zwe zwl zwo zto b w hw hk hk' hE hb P J2 _ hP j 0 ⟨j, by omega, hj1, hj2⟩ _ (by omega)⟩)
  | succ e ih =>
    intro S hS n hn
    have hs6 : S < 6 := by omega
    have h6 : ¬ (6 : Int32) ≤ nI S := nI_ge (b := 6) hs6 (by decide)
    exact (by obtain ⟨m, rfl, hm⟩ := fu_m hn; exact br_f h6 ⟨w S + 1, ry_pass now rc ql nx zae zal zan zat zbr zca zcl zcm zcr zen zfa zho zhs zky zpa zpt zqy zra zre zrp zrs zse zsi zsl zso zsu zsy zti ztk ztr ztu zup zwe zwl zwo zto b w hw hk hk' hs6 (hno S (by omega)) P J2 _ (ih (S + 1) (by omega) m (by omega)) (w S) 0 (by omega) _ (by omega)⟩)
theorem rz_loop (b : Nat → Bool) (w : Nat → Nat) (hw : ∀ s, s < 6 → w s < 10 ∧ zwe s = nI (w s)) {key d : Nat} {c : Int32} (hk : key < 256) (h : rg_B b w key 6 c d) (P : Int32 → Prop)
    (hP : P c) : ∀ e k : Nat, k + e = d → ∀ n : Nat, e < n → wY_ring_2 P (mk_m b 6) (nI key) (nI now) (nI rc) (nI nx) (nI ql) zwe zsl zpa zti zfa zcr zsu zsi zwl zbr zup zrp zrs zse zca zre ztk zho zhs zcl zpt zky zwo zra zsy zat zan ztr zcm zen zae zal zqy zto ztu zso n (nI k) := by
  obtain ⟨h1, h2, h3, h4⟩ := h
  have h256 : ¬ (256 : Int32) = 0 := by decide
  intro e
  induction e with
  | zero =>
    intro k hkd n hn
    have ek : k = d := by omega
    subst ek
    by_cases z : k < 256
    · have er : (nI key + nI k) - (nI key + nI k) / 256 * 256 = nI ((key + k) % 256) := by rw [nI_add]; exact pk_rem (d := 256) (by omega) (by decide) (by decide)
      obtain ⟨E, hE, rfl, hb, hj, hno⟩ := h4 z
      exact (by obtain ⟨m, rfl, hm_⟩ := fu_m hn; exact br_f (nI_ge (b := 256) z (by decide)) ⟨h256, nm_r er ⟨E + 1, rz_hit now rc ql nx zae zal zan zat zbr zca zcl zcm zcr zen zfa zho zhs zky zpa zpt zqy zra zre zrp zrs zse zsi zsl zso zsu zsy zti ztk ztr ztu zup zwe zwl zwo zto b w hw hk z hE hb hj (fun s hs bs j hj' => Nat.ne_of_gt (hno s hs bs j hj')) P _ hP E 0 (by omega) _ (by omega)⟩⟩)
    · have e6 : k = 256 := by omega
      subst e6
      rw [h3 rfl] at hP
      exact (by obtain ⟨m, rfl, hm_⟩ := fu_m hn; exact br_t (by decide) hP)
  | succ e ih =>
    intro k hkd n hn
    have z : k < 256 := by omega
    have er : (nI key + nI k) - (nI key + nI k) / 256 * 256 = nI ((key + k) % 256) := by rw [nI_add]; exact pk_rem (d := 256) (by omega) (by decide) (by decide)
    exact (by obtain ⟨m, rfl, hm⟩ := fu_m hn; exact br_f (nI_ge (b := 256) z (by decide)) ⟨h256, nm_r er ⟨7, rz_pass now rc ql nx zae zal zan zat zbr zca zcl zcm zcr zen zfa zho zhs zky zpa zpt zqy zra zre zrp zrs zse zsi zsl zso zsu zsy zti ztk ztr ztu zup zwe zwl zwo zto b w hw hk z (fun s hs bs j hj => fun x => by have := h2 s hs bs j hj; omega) P _ (ih (k + 1) (by omega) m (by omega)) 6 0 rfl _ (by omega)⟩⟩)
theorem rg_pair (b : Nat → Bool) (w : Nat → Nat) (hw : ∀ s, s < 6 → w s < 10 ∧ zwe s = nI (w s)) {key : Nat} (hk : key < 256) : ∃ r : Int32, ch_ok b r ∧
    (∀ P : Int32 → Prop, P r → wpX_chooseOnRing P (nI now, nI rc, nI ql, zse, zto, ztu, zwe, zsl, zpa, zbr, zup, zti, zfa, zcr, zru, zsu, zfi, zrp, zrs, zca, zre, ztk, zho, zhs, zst, zcl, zpt, zky, zwo, zra, zcm, zen, zat, zan, ztr, zae, zal, zqx) (mk_m b 6) (nI key)) ∧ (∀ P : Int32 → Prop, P r → wpY_ring P (nI now, nI rc, nI nx, nI ql, zwe, zsl, zpa, zti, zfa, zcr, zsu, zsi, zwl, zbr, zup, zrp, zrs, zse, zca, zre, ztk, zho, zhs, zcl, zpt, zky, zwo, zra, zsy, zat, zan, ztr, zcm, zen, zae, zal, zqy, zto, ztu, zso) (mk_m b 6) (nI key)) := by
  obtain ⟨c, d, h⟩ := rg_ex b w key 6
  refine ⟨c, ?_, fun P hp => ⟨7, rx_out now rc ql zae zal zan zat zbr zca zcl zcm zcr zen zfa zfi zho zhs zky zpa zpt zqx zra zre zrp zrs zru zse zsl zst zsu zti ztk ztr ztu zup zwe zwo zto b w hw hk P (fun c' d' h' => by rw [← rg_uni h h']; exact hp) 6 0 rfl (-1) 256 7 (rg_B0 b w key) (by omega)⟩,
    fun P hp => ⟨d + 1, rz_loop now rc ql nx zae zal zan zat zbr zca zcl zcm zcr zen zfa zho zhs zky zpa zpt zqy zra zre zrp zrs zse zsi zsl zso zsu zsy zti ztk ztr ztu zup zwe zwl zwo zto b w hw hk h P hp d 0 (by omega) _ (by omega)⟩⟩
  by_cases z : d < 256
  · obtain ⟨e, he, ce, be, _⟩ := h.2.2.2 z
    exact Or.inr ⟨e, he, be, ce⟩
  · exact Or.inl (h.2.2.1 (by have := h.1; omega))
end
