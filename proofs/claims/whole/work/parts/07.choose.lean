/-! the three ways to choose -/
/-- what a choice among the bits of b may answer -/
def ch_ok (b : Nat → Bool) (r : Int32) : Prop := r = -1 ∨ ∃ c : Nat, c < 6 ∧ b c = true ∧ r = nI c
section
variable (now rc ql nx : Nat) (zae zal zan zat zbr zca zcl zcm zcr zen zfa zfi zho zhs zky zpa zpt zqx zqy zra zre zrp zrs zru zse zsi zsl zso zst zsu zsy zti ztk ztr ztu zup zwe zwl zwo : Nat → Int32) (zto : Nat → Int64)
theorem tn_loop (b : Nat → Bool) : ∀ d s : Nat, s + d = 6 → ∀ (best sum : Int32) (cr : Nat → Int32), ((best = -1 ∧ (∀ j, j < s → b j = false) ∧ cr = zcr) ∨ ∃ c : Nat, c < 6 ∧ b c = true ∧ best = nI c) →
    ∃ (r : Int32) (cr' : Nat → Int32), ((r = -1 ∧ (∀ j, j < 6 → b j = false) ∧ cr' = zcr) ∨ ∃ c : Nat, c < 6 ∧ b c = true ∧ r = nI c) ∧
    (∀ (P : Int32 → SX → Prop) (n : Nat), d < n → P r (nI now, nI rc, nI ql, zse, zto, ztu, zwe, zsl, zpa, zbr, zup, zti, zfa, cr', zru, zsu, zfi, zrp, zrs, zca, zre, ztk, zho, zhs, zst, zcl, zpt, zky, zwo, zra, zcm, zen, zat, zan, ztr, zae, zal, zqx) → wX_chooseByTurns_7 P (mk_m b 6) (nI now) (nI rc) (nI ql) n best sum (nI s) zse zto ztu zwe zsl zpa zbr zup zti zfa cr zru zsu zfi zrp zrs zca zre ztk zho zhs zst zcl zpt zky zwo zra zcm zen zat zan ztr zae zal zqx) ∧
    (¬ r = -1 → ∀ (P : Int32 → SY → Prop) (n : Nat), d < n → P r (nI now, nI rc, nI nx, nI ql, zwe, zsl, zpa, zti, zfa, cr', zsu, zsi, zwl, zbr, zup, zrp, zrs, zse, zca, zre, ztk, zho, zhs, zcl, zpt, zky, zwo, zra, zsy, zat, zan, ztr, zcm, zen, zae, zal, zqy, zto, ztu, zso) → wY_turns_7 P (mk_m b 6) (nI now) (nI rc) (nI nx) (nI ql) n sum best (nI s) zwe zsl zpa zti zfa cr zsu zsi zwl zbr zup zrp zrs zse zca zre ztk zho zhs zcl zpt zky zwo zra zsy zat zan ztr zcm zen zae zal zqy zto ztu zso) := by
  intro d
  induction d with
  | zero =>
    intro s hs best sum cr hb
    have e : s = 6 := by omega
    subst e
    rcases hb with ⟨rfl, h2, rfl⟩ | ⟨c, hc, hbc, rfl⟩
    · exact ⟨-1, cr, Or.inl ⟨rfl, h2, rfl⟩, fun P n hn hp => (by obtain ⟨m, rfl, hm_⟩ := fu_m hn; exact br_t (by decide) (br_t rfl hp)), fun z => absurd rfl z⟩
    · have hi : vp_in (nI c) 6 := vp_in_nI hc (by decide)
      exact ⟨nI c, upd cr (nI c).toNatClampNeg (cr (nI c).toNatClampNeg - sum), Or.inr ⟨c, hc, hbc, rfl⟩, fun P n hn hp => (by obtain ⟨m, rfl, hm_⟩ := fu_m hn; exact br_t (by decide) (br_f (ms_nI_m1 (by omega)) ⟨hi, hi, nm_e hp⟩)),
        fun _ P n hn hp => (by obtain ⟨m, rfl, hm_⟩ := fu_m hn; exact br_t (by decide) ⟨hi, hi, nm_e hp⟩)⟩
  | succ d ih =>
    intro s hs best sum cr hb
    have hs6 : s < 6 := by omega
    have h6 : ¬ (6 : Int32) ≤ nI s := nI_ge (b := 6) hs6 (by decide)
    have hi : vp_in (nI s) 6 := vp_in_nI hs6 (by decide)
    cases eb : b s with
    | false =>
      have zb := mk_b0 hs6 eb
      have hb' : (best = -1 ∧ (∀ j, j < s + 1 → b j = false) ∧ cr = zcr) ∨ ∃ c : Nat, c < 6 ∧ b c = true ∧ best = nI c := by
        rcases hb with ⟨h1, h2, h3⟩ | h
        · exact Or.inl ⟨h1, lt_s h2 eb, h3⟩
        · exact Or.inr h
      obtain ⟨r, cr', h0, hX, hY⟩ := ih (s + 1) (by omega) best sum cr hb'
      exact ⟨r, cr', h0, fun P n hn hp => (by obtain ⟨m, rfl, hm⟩ := fu_m hn; exact br_f h6 (br_t zb (nm_r (nI_1 s) (hX P m (by omega) hp)))),
        fun hr P n hn hp => (by obtain ⟨m, rfl, hm⟩ := fu_m hn; exact br_f h6 (br_t zb (nm_r (nI_1 s) (hY hr P m (by omega) hp))))⟩
    | true =>
      have zb := mk_b1' hs6 eb
      rcases hb with ⟨rfl, h2, h3⟩ | ⟨c, hc, hbc, rfl⟩
      · obtain ⟨r, cr', h0, hX, hY⟩ := ih (s + 1) (by omega) (nI s) (sum + zwe (nI s).toNatClampNeg) (upd cr (nI s).toNatClampNeg (cr (nI s).toNatClampNeg + zwe (nI s).toNatClampNeg)) (Or.inr ⟨s, hs6, eb, rfl⟩)
        exact ⟨r, cr', h0, fun P n hn hp => (by obtain ⟨m, rfl, hm⟩ := fu_m hn; exact br_f h6 (br_f zb ⟨hi, hi, hi, nm_e ⟨hi, nm_e (br_t rfl (nm_r (nI_1 s) (hX P m (by omega) hp)))⟩⟩)),
          fun hr P n hn hp => (by obtain ⟨m, rfl, hm⟩ := fu_m hn; exact br_f h6 (br_f zb ⟨hi, hi, hi, nm_e ⟨hi, nm_e (br_t ms_m1 (nm_r (nI_1 s) (hY hr P m (by omega) hp)))⟩⟩))⟩
      · have hci : vp_in (nI c) 6 := vp_in_nI hc (by decide)
        by_cases z : (upd cr (nI s).toNatClampNeg (cr (nI s).toNatClampNeg + zwe (nI s).toNatClampNeg)) (nI s).toNatClampNeg ≤ (upd cr (nI s).toNatClampNeg (cr (nI s).toNatClampNeg + zwe (nI s).toNatClampNeg)) (nI c).toNatClampNeg
        · obtain ⟨r, cr', h0, hX, hY⟩ := ih (s + 1) (by omega) (nI c) (sum + zwe (nI s).toNatClampNeg) (upd cr (nI s).toNatClampNeg (cr (nI s).toNatClampNeg + zwe (nI s).toNatClampNeg)) (Or.inr ⟨c, hc, hbc, rfl⟩)
          exact ⟨r, cr', h0, fun P n hn hp => (by obtain ⟨m, rfl, hm⟩ := fu_m hn; exact br_f h6 (br_f zb ⟨hi, hi, hi, nm_e ⟨hi, nm_e (br_f (ms_nI_m1 (by omega)) ⟨hi, hci, br_t z (nm_r (nI_1 s) (hX P m (by omega) hp))⟩)⟩⟩)),
            fun hr P n hn hp => (by obtain ⟨m, rfl, hm⟩ := fu_m hn; exact br_f h6 (br_f zb ⟨hi, hi, hi, nm_e ⟨hi, nm_e (br_f (nI_pos (by omega)) ⟨hi, hci, br_t z (nm_r (nI_1 s) (hY hr P m (by omega) hp))⟩)⟩⟩))⟩
        · obtain ⟨r, cr', h0, hX, hY⟩ := ih (s + 1) (by omega) (nI s) (sum + zwe (nI s).toNatClampNeg) (upd cr (nI s).toNatClampNeg (cr (nI s).toNatClampNeg + zwe (nI s).toNatClampNeg)) (Or.inr ⟨s, hs6, eb, rfl⟩)
          exact ⟨r, cr', h0, fun P n hn hp => (by obtain ⟨m, rfl, hm⟩ := fu_m hn; exact br_f h6 (br_f zb ⟨hi, hi, hi, nm_e ⟨hi, nm_e (br_f (ms_nI_m1 (by omega)) ⟨hi, hci, br_f z (nm_r (nI_1 s) (hX P m (by omega) hp))⟩)⟩⟩)),
            fun hr P n hn hp => (by obtain ⟨m, rfl, hm⟩ := fu_m hn; exact br_f h6 (br_f zb ⟨hi, hi, hi, nm_e ⟨hi, nm_e (br_f (nI_pos (by omega)) ⟨hi, hci, br_f z (nm_r (nI_1 s) (hY hr P m (by omega) hp))⟩)⟩⟩))⟩
theorem le_loop (b : Nat → Bool) (hR : ∀ s, s < 6 → ∀ P : Int32 → Prop, P (zru s) → wpY_running P (nI now, nI rc, nI nx, nI ql, zwe, zsl, zpa, zti, zfa, zcr, zsu, zsi, zwl, zbr, zup, zrp, zrs, zse, zca, zre, ztk, zho, zhs, zcl, zpt, zky, zwo, zra, zsy, zat, zan, ztr, zcm, zen, zae, zal, zqy, zto, ztu, zso) (nI s)) : ∀ d s : Nat, s + d = 6 → ∀ best : Int32, ch_ok b best →
    ∃ r : Int32, ch_ok b r ∧ (∀ (P : Int32 → Prop) (n : Nat), d < n → P r → wX_chooseLeast_4 P (mk_m b 6) (nI now) (nI rc) (nI ql) zse zto ztu zwe zsl zpa zbr zup zti zfa zcr zru zsu zfi zrp zrs zca zre ztk zho zhs zst zcl zpt zky zwo zra zcm zen zat zan ztr zae zal zqx n best (nI s)) ∧
    (∀ (P : Int32 → Prop) (n : Nat), d < n → P r → wY_least_4 P (mk_m b 6) (nI now) (nI rc) (nI nx) (nI ql) zwe zsl zpa zti zfa zcr zsu zsi zwl zbr zup zrp zrs zse zca zre ztk zho zhs zcl zpt zky zwo zra zsy zat zan ztr zcm zen zae zal zqy zto ztu zso n best (nI s)) := by
  intro d
  induction d with
  | zero =>
    intro s hs best hb
    have e : s = 6 := by omega
    subst e
    exact ⟨best, hb, fun P n hn hp => (by obtain ⟨m, rfl, hm_⟩ := fu_m hn; exact br_t (by decide) hp), fun P n hn hp => (by obtain ⟨m, rfl, hm_⟩ := fu_m hn; exact br_t (by decide) hp)⟩
  | succ d ih =>
    intro s hs best hb
    have hs6 : s < 6 := by omega
    have h6 : ¬ (6 : Int32) ≤ nI s := nI_ge (b := 6) hs6 (by decide)
    have hi : vp_in (nI s) 6 := vp_in_nI hs6 (by decide)
    have es : (nI s).toNatClampNeg = s := nI_clamp (by omega)
    cases eb : b s with
    | false =>
      have zb := mk_b0 hs6 eb
      obtain ⟨r, h0, hX, hY⟩ := ih (s + 1) (by omega) best hb
      exact ⟨r, h0, fun P n hn hp => (by obtain ⟨m, rfl, hm⟩ := fu_m hn; exact br_f h6 (br_t zb (nm_r (nI_1 s) (hX P m (by omega) hp)))),
        fun P n hn hp => (by obtain ⟨m, rfl, hm⟩ := fu_m hn; exact br_f h6 (br_t zb (nm_r (nI_1 s) (hY P m (by omega) hp))))⟩
    | true =>
      have zb := mk_b1' hs6 eb
      rcases hb with rfl | ⟨c, hc, hbc, rfl⟩
      · obtain ⟨r, h0, hX, hY⟩ := ih (s + 1) (by omega) (nI s) (Or.inr ⟨s, hs6, eb, rfl⟩)
        exact ⟨r, h0, fun P n hn hp => (by obtain ⟨m, rfl, hm⟩ := fu_m hn; exact br_f h6 (br_f zb (br_t rfl (nm_r (nI_1 s) (hX P m (by omega) hp))))),
          fun P n hn hp => (by obtain ⟨m, rfl, hm⟩ := fu_m hn; exact br_f h6 (br_f zb (br_t ms_m1 (nm_r (nI_1 s) (hY P m (by omega) hp)))))⟩
      · have hci : vp_in (nI c) 6 := vp_in_nI hc (by decide)
        have ec : (nI c).toNatClampNeg = c := nI_clamp (by omega)
        by_cases z : zru c * zwe s ≤ zru s * zwe c
        · obtain ⟨r, h0, hX, hY⟩ := ih (s + 1) (by omega) (nI c) (Or.inr ⟨c, hc, hbc, rfl⟩)
          exact ⟨r, h0, fun P n hn hp => (by obtain ⟨m, rfl, hm⟩ := fu_m hn; exact br_f h6 (br_f zb (br_f (ms_nI_m1 (by omega)) ⟨hi, hci, hci, hi, by rw [es, ec]; exact br_t z (nm_r (nI_1 s) (hX P m (by omega) hp))⟩))),
            fun P n hn hp => (by obtain ⟨m, rfl, hm⟩ := fu_m hn; exact br_f h6 (br_f zb (br_f (nI_pos (by omega)) (hR s hs6 _ ⟨hci, hR c hc _ ⟨hi, by rw [es, ec]; exact br_t z (nm_r (nI_1 s) (hY P m (by omega) hp))⟩⟩))))⟩
        · obtain ⟨r, h0, hX, hY⟩ := ih (s + 1) (by omega) (nI s) (Or.inr ⟨s, hs6, eb, rfl⟩)
          exact ⟨r, h0, fun P n hn hp => (by obtain ⟨m, rfl, hm⟩ := fu_m hn; exact br_f h6 (br_f zb (br_f (ms_nI_m1 (by omega)) ⟨hi, hci, hci, hi, by rw [es, ec]; exact br_f z (nm_r (nI_1 s) (hX P m (by omega) hp))⟩))),
            fun P n hn hp => (by obtain ⟨m, rfl, hm⟩ := fu_m hn; exact br_f h6 (br_f zb (br_f (nI_pos (by omega)) (hR s hs6 _ ⟨hci, hR c hc _ ⟨hi, by rw [es, ec]; exact br_f z (nm_r (nI_1 s) (hY P m (by omega) hp))⟩⟩))))⟩
end
theorem rg_ex1 (b : Nat → Bool) (w : Nat → Nat) (key S : Nat) (hb : b S = true) : ∀ m, m ≤ w S → ∀ c d, rg_B b w key S c d → ∃ c' d', rg_I b w key S m c' d' := by
  intro m
  induction m with
  | zero => intro _ c d h; exact ⟨c, d, rg_in h⟩
  | succ m ih =>
    intro hm c d h
    obtain ⟨c', d', h'⟩ := ih (by omega) c d h
    by_cases z : d' ≤ rg_D key S m
    · exact ⟨c', d', rg_no h' z⟩
    · exact ⟨_, _, rg_yes h' hb (by omega) (by omega)⟩
theorem rg_ex (b : Nat → Bool) (w : Nat → Nat) (key : Nat) : ∀ S, ∃ c d, rg_B b w key S c d := by
  intro S
  induction S with
  | zero => exact ⟨_, _, rg_B0 b w key⟩
  | succ S ih =>
    obtain ⟨c, d, h⟩ := ih
    cases e : b S with
    | false => exact ⟨c, d, rg_skip h e⟩
    | true =>
      obtain ⟨c', d', h'⟩ := rg_ex1 b w key S e (w S) (Nat.le_refl _) c d h
      exact ⟨c', d', rg_out h'⟩
theorem rg_dle {b : Nat → Bool} {w : Nat → Nat} {key S d d' : Nat} {c c' : Int32} (h : rg_B b w key S c d) (h' : rg_B b w key S c' d') : d ≤ d' := by
  obtain ⟨a1, a2, a3, a4⟩ := h
  obtain ⟨b1, b2, b3, b4⟩ := h'
  by_cases z : d' < 256
  · obtain ⟨e, he, _, be, ⟨j, hj, hd⟩, _⟩ := b4 z
    have := a2 e he be j hj
    omega
  · omega
theorem rg_uni {b : Nat → Bool} {w : Nat → Nat} {key S d d' : Nat} {c c' : Int32} (h : rg_B b w key S c d) (h' : rg_B b w key S c' d') : c = c' := by
  have e1 := rg_dle h h'
  have e2 := rg_dle h' h
  have e : d = d' := by omega
  subst e
  obtain ⟨a1, a2, a3, a4⟩ := h
  obtain ⟨b1, b2, b3, b4⟩ := h'
  by_cases z : d < 256
  · obtain ⟨e, he, ce, be, ⟨j, hj, hd⟩, hl⟩ := a4 z
    obtain ⟨e', he', ce', be', ⟨j', hj', hd'⟩, hl'⟩ := b4 z
    have x1 : ¬ e < e' := fun x => by have := hl' e x be j hj; omega
    have x2 : ¬ e' < e := fun x => by have := hl e' x be' j' hj'; omega
    rw [ce, ce', show e = e' from by omega]
  · rw [a3 (by omega), b3 (by omega)]
