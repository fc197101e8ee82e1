/-! readiness: a server is ready for a request -/
theorem ex_t {c A B : Prop} (hc : c) (h : (c → A) ∧ (¬ c → B)) : A := h.1 hc
theorem ex_f {c A B : Prop} (hc : ¬ c) (h : (c → A) ∧ (¬ c → B)) : B := h.2 hc
theorem mk_st {b : Nat → Bool} {i : Nat} (h : b i = true) : mk_m b (i + 1) = mk_m b i ||| ((1 : Int32) <<< (nI i &&& 31)) := if_pos h
theorem mk_sf {b : Nat → Bool} {i : Nat} (h : b i = false) : mk_m b (i + 1) = mk_m b i := if_neg (by rw [h]; exact Bool.false_ne_true)
theorem mk_b1 {b : Nat → Bool} {s : Nat} (h : s < 6) (hb : b s = true) : ((mk_m b 6 >>> (nI s &&& 31)) &&& 1) = 1 := by rw [mk_bit b h, if_pos hb]
theorem mk_b0 {b : Nat → Bool} {s : Nat} (h : s < 6) (hb : b s = false) : ((mk_m b 6 >>> (nI s &&& 31)) &&& 1) = 0 := by rw [mk_bit b h, if_neg (by rw [hb]; exact Bool.false_ne_true)]
theorem mk_b1' {b : Nat → Bool} {s : Nat} (h : s < 6) (hb : b s = true) : ¬ ((mk_m b 6 >>> (nI s &&& 31)) &&& 1) = 0 := by rw [mk_b1 h hb]; decide
theorem mk_b0' {b : Nat → Bool} {s : Nat} (h : s < 6) (hb : b s = false) : ¬ ((mk_m b 6 >>> (nI s &&& 31)) &&& 1) = 1 := by rw [mk_b0 h hb]; decide
def rd_o (now : Nat) (zwe zup zsl zti zru : Nat → Int32) (s : Nat) : Prop := ¬ zwe s = 0 ∧ ¬ zup s = 0 ∧ zru s < zsl s ∧ (zti s = -1 ∨ (¬ nI now < zti s ∧ zru s = 0))
def rd_c (now : Nat) (zwe zup zsl zti zru : Nat → Int32) (sv tr : Int32) (s : Nat) : Prop := ¬ ((sv >>> (nI s &&& 31)) &&& 1) = 0 ∧ ((tr >>> (nI s &&& 31)) &&& 1) = 0 ∧ rd_o now zwe zup zsl zti zru s
noncomputable def rd_b (now : Nat) (zwe zup zsl zti zru : Nat → Int32) (sv tr : Int32) : Nat → Bool := fun s => @decide (rd_c now zwe zup zsl zti zru sv tr s) (Classical.propDecidable _)
theorem rd_bt {now : Nat} {zwe zup zsl zti zru : Nat → Int32} {sv tr : Int32} {s : Nat} (h : rd_c now zwe zup zsl zti zru sv tr s) : rd_b now zwe zup zsl zti zru sv tr s = true := @decide_eq_true _ (Classical.propDecidable _) h
theorem rd_bf {now : Nat} {zwe zup zsl zti zru : Nat → Int32} {sv tr : Int32} {s : Nat} (h : ¬ rd_c now zwe zup zsl zti zru sv tr s) : rd_b now zwe zup zsl zti zru sv tr s = false := @decide_eq_false _ (Classical.propDecidable _) h
section
variable (now rc ql nx : Nat) (zae zal zan zat zbr zca zcl zcm zcr zen zfa zfi zho zhs zky zpa zpt zqx zqy zra zre zrp zrs zru zse zsi zsl zso zst zsu zsy zti ztk ztr ztu zup zwe zwl zwo : Nat → Int32) (zto : Nat → Int64)
theorem op_1 {s : Nat} (hs : s < 6) (h : rd_o now zwe zup zsl zti zru s) (P : Int32 → Prop) (hP : P 1) : wpX_isOpen P (nI now, nI rc, nI ql, zse, zto, ztu, zwe, zsl, zpa, zbr, zup, zti, zfa, zcr, zru, zsu, zfi, zrp, zrs, zca, zre, ztk, zho, zhs, zst, zcl, zpt, zky, zwo, zra, zcm, zen, zat, zan, ztr, zae, zal, zqx) (nI s) := by
  have hi : vp_in (nI s) 6 := vp_in_nI hs (by decide)
  have e : (nI s).toNatClampNeg = s := nI_clamp (by omega)
  obtain ⟨a, b, c, d⟩ := h
  unfold wpX_isOpen
  rw [e]
  refine ⟨hi, br_f a ⟨hi, br_f b ⟨hi, hi, br_t c ⟨hi, ?_⟩⟩⟩⟩
  by_cases z : zti s = -1
  · exact br_t z hP
  · obtain ⟨d1, d2⟩ := d.resolve_left z
    exact br_f z ⟨hi, br_f d1 ⟨hi, br_t d2 hP⟩⟩
theorem op_0 {s : Nat} (hs : s < 6) (h : ¬ rd_o now zwe zup zsl zti zru s) (P : Int32 → Prop) (hP : P 0) : wpX_isOpen P (nI now, nI rc, nI ql, zse, zto, ztu, zwe, zsl, zpa, zbr, zup, zti, zfa, zcr, zru, zsu, zfi, zrp, zrs, zca, zre, ztk, zho, zhs, zst, zcl, zpt, zky, zwo, zra, zcm, zen, zat, zan, ztr, zae, zal, zqx) (nI s) := by
  have hi : vp_in (nI s) 6 := vp_in_nI hs (by decide)
  have e : (nI s).toNatClampNeg = s := nI_clamp (by omega)
  unfold wpX_isOpen
  rw [e]
  by_cases a : zwe s = 0
  · exact ⟨hi, br_t a hP⟩
  by_cases b : zup s = 0
  · exact ⟨hi, br_f a ⟨hi, br_t b hP⟩⟩
  by_cases c : zru s < zsl s
  · by_cases z : zti s = -1
    · exact absurd ⟨a, b, c, Or.inl z⟩ h
    by_cases y : nI now < zti s
    · exact ⟨hi, br_f a ⟨hi, br_f b ⟨hi, hi, br_t c ⟨hi, br_f z ⟨hi, br_t y hP⟩⟩⟩⟩⟩
    by_cases x : zru s = 0
    · exact absurd ⟨a, b, c, Or.inr ⟨y, x⟩⟩ h
    · exact ⟨hi, br_f a ⟨hi, br_f b ⟨hi, hi, br_t c ⟨hi, br_f z ⟨hi, br_f y ⟨hi, br_f x hP⟩⟩⟩⟩⟩⟩
  · exact ⟨hi, br_f a ⟨hi, br_f b ⟨hi, hi, br_f c hP⟩⟩⟩
theorem ry_m {s q : Nat} (hs : s < 6) (hq : q < 32) (hS : ∀ P : Int32 → Prop, P (-1) → wpY_serversOf P (nI now, nI rc, nI nx, nI ql, zwe, zsl, zpa, zti, zfa, zcr, zsu, zsi, zwl, zbr, zup, zrp, zrs, zse, zca, zre, ztk, zho, zhs, zcl, zpt, zky, zwo, zra, zsy, zat, zan, ztr, zcm, zen, zae, zal, zqy, zto, ztu, zso) (zpt q)) (hR : ∀ P : Int32 → Prop, P (zru s) → wpY_running P (nI now, nI rc, nI nx, nI ql, zwe, zsl, zpa, zti, zfa, zcr, zsu, zsi, zwl, zbr, zup, zrp, zrs, zse, zca, zre, ztk, zho, zhs, zcl, zpt, zky, zwo, zra, zsy, zat, zan, ztr, zcm, zen, zae, zal, zqy, zto, ztu, zso) (nI s)) (P : Int32 → Prop) (hP : P 0) : wpY_isReady P (nI now, nI rc, nI nx, nI ql, zwe, zsl, zpa, zti, zfa, zcr, zsu, zsi, zwl, zbr, zup, zrp, zrs, zse, zca, zre, ztk, zho, zhs, zcl, zpt, zky, zwo, zra, zsy, zat, zan, ztr, zcm, zen, zae, zal, zqy, zto, ztu, zso) (nI s) (nI q) := by
  have hqi : vp_in (nI q) 32 := vp_in_nI hq (by decide)
  have eq : (nI q).toNatClampNeg = q := nI_clamp (by omega)
  unfold wpY_isReady
  rw [eq]
  exact ⟨hqi, hS _ (hR _ (br_t ms_m1 hP))⟩
theorem ry_1 {s q : Nat} {sv : Int32} (hs : s < 6) (hq : q < 32) (hsv : 0 ≤ sv) (ht : zti s = -1 ∨ 0 ≤ zti s) (hS : ∀ P : Int32 → Prop, P sv → wpY_serversOf P (nI now, nI rc, nI nx, nI ql, zwe, zsl, zpa, zti, zfa, zcr, zsu, zsi, zwl, zbr, zup, zrp, zrs, zse, zca, zre, ztk, zho, zhs, zcl, zpt, zky, zwo, zra, zsy, zat, zan, ztr, zcm, zen, zae, zal, zqy, zto, ztu, zso) (zpt q)) (hR : ∀ P : Int32 → Prop, P (zru s) → wpY_running P (nI now, nI rc, nI nx, nI ql, zwe, zsl, zpa, zti, zfa, zcr, zsu, zsi, zwl, zbr, zup, zrp, zrs, zse, zca, zre, ztk, zho, zhs, zcl, zpt, zky, zwo, zra, zsy, zat, zan, ztr, zcm, zen, zae, zal, zqy, zto, ztu, zso) (nI s))
    (h : rd_c now zwe zup zsl zti zru sv (ztr q) s) (P : Int32 → Prop) (hP : P 1) : wpY_isReady P (nI now, nI rc, nI nx, nI ql, zwe, zsl, zpa, zti, zfa, zcr, zsu, zsi, zwl, zbr, zup, zrp, zrs, zse, zca, zre, ztk, zho, zhs, zcl, zpt, zky, zwo, zra, zsy, zat, zan, ztr, zcm, zen, zae, zal, zqy, zto, ztu, zso) (nI s) (nI q) := by
  have hi : vp_in (nI s) 6 := vp_in_nI hs (by decide)
  have e : (nI s).toNatClampNeg = s := nI_clamp (by omega)
  have hqi : vp_in (nI q) 32 := vp_in_nI hq (by decide)
  have eq : (nI q).toNatClampNeg = q := nI_clamp (by omega)
  obtain ⟨h1, h2, a, b, c, d⟩ := h
  have t1 : ¬ ((ztr q >>> (nI s &&& 31)) &&& 1) = 1 := by rw [h2]; decide
  unfold wpY_isReady
  rw [eq, e]
  refine ⟨hqi, hS _ (hR _ (br_f (Int32.not_lt.mpr hsv) (br_f h1 ⟨hi, br_f a ⟨hi, br_f b ⟨hi, br_f (Int32.not_le.mpr c) ⟨hqi, br_f t1 ⟨hi, ?_⟩⟩⟩⟩⟩)))⟩
  by_cases z : zti s = -1
  · exact br_t (by rw [z]; exact ms_m1) hP
  · obtain ⟨d1, d2⟩ := d.resolve_left z
    exact br_f (Int32.not_lt.mpr (ht.resolve_left z)) ⟨hi, br_f d1 (br_t d2 hP)⟩
theorem ry_0 {s q : Nat} {sv : Int32} (hs : s < 6) (hq : q < 32) (hsv : 0 ≤ sv) (ht : zti s = -1 ∨ 0 ≤ zti s) (hS : ∀ P : Int32 → Prop, P sv → wpY_serversOf P (nI now, nI rc, nI nx, nI ql, zwe, zsl, zpa, zti, zfa, zcr, zsu, zsi, zwl, zbr, zup, zrp, zrs, zse, zca, zre, ztk, zho, zhs, zcl, zpt, zky, zwo, zra, zsy, zat, zan, ztr, zcm, zen, zae, zal, zqy, zto, ztu, zso) (zpt q)) (hR : ∀ P : Int32 → Prop, P (zru s) → wpY_running P (nI now, nI rc, nI nx, nI ql, zwe, zsl, zpa, zti, zfa, zcr, zsu, zsi, zwl, zbr, zup, zrp, zrs, zse, zca, zre, ztk, zho, zhs, zcl, zpt, zky, zwo, zra, zsy, zat, zan, ztr, zcm, zen, zae, zal, zqy, zto, ztu, zso) (nI s))
    (h : ¬ rd_c now zwe zup zsl zti zru sv (ztr q) s) (P : Int32 → Prop) (hP : P 0) : wpY_isReady P (nI now, nI rc, nI nx, nI ql, zwe, zsl, zpa, zti, zfa, zcr, zsu, zsi, zwl, zbr, zup, zrp, zrs, zse, zca, zre, ztk, zho, zhs, zcl, zpt, zky, zwo, zra, zsy, zat, zan, ztr, zcm, zen, zae, zal, zqy, zto, ztu, zso) (nI s) (nI q) := by
  have hi : vp_in (nI s) 6 := vp_in_nI hs (by decide)
  have e : (nI s).toNatClampNeg = s := nI_clamp (by omega)
  have hqi : vp_in (nI q) 32 := vp_in_nI hq (by decide)
  have eq : (nI q).toNatClampNeg = q := nI_clamp (by omega)
  have hn : ¬ sv < 0 := Int32.not_lt.mpr hsv
  unfold wpY_isReady
  rw [eq, e]
  refine ⟨hqi, hS _ (hR _ (br_f hn ?_))⟩
  by_cases h1 : ((sv >>> (nI s &&& 31)) &&& 1) = 0
  · exact br_t h1 hP
  by_cases a : zwe s = 0
  · exact br_f h1 ⟨hi, br_t a hP⟩
  by_cases b : zup s = 0
  · exact br_f h1 ⟨hi, br_f a ⟨hi, br_t b hP⟩⟩
  by_cases c : zsl s ≤ zru s
  · exact br_f h1 ⟨hi, br_f a ⟨hi, br_f b ⟨hi, br_t c hP⟩⟩⟩
  by_cases t : ((ztr q >>> (nI s &&& 31)) &&& 1) = 1
  · exact br_f h1 ⟨hi, br_f a ⟨hi, br_f b ⟨hi, br_f c ⟨hqi, br_t t hP⟩⟩⟩⟩
  have t0 : ((ztr q >>> (nI s &&& 31)) &&& 1) = 0 := (mk_1 _).resolve_right t
  refine br_f h1 ⟨hi, br_f a ⟨hi, br_f b ⟨hi, br_f c ⟨hqi, br_f t ⟨hi, ?_⟩⟩⟩⟩⟩
  by_cases z : zti s = -1
  · exact absurd ⟨h1, t0, a, b, Int32.not_le.mp c, Or.inl z⟩ h
  by_cases y : nI now < zti s
  · exact br_f (Int32.not_lt.mpr (ht.resolve_left z)) ⟨hi, br_t y hP⟩
  by_cases x : zru s = 0
  · exact absurd ⟨h1, t0, a, b, Int32.not_le.mp c, Or.inr ⟨y, x⟩⟩ h
  · exact br_f (Int32.not_lt.mpr (ht.resolve_left z)) ⟨hi, br_f y (br_f x hP)⟩
theorem ra_loop {q : Nat} (hq : q < 32) (sv : Int32) (P : Int32 → Prop) (hP : P (mk_m (rd_b now zwe zup zsl zti zru sv (ztr q)) 6)) :
    ∀ d s n : Nat, s + d = 6 → d < n → wX_readyAmong_5 P sv (nI q) (nI now) (nI rc) (nI ql) zse zto ztu zwe zsl zpa zbr zup zti zfa zcr zru zsu zfi zrp zrs zca zre ztk zho zhs zst zcl zpt zky zwo zra zcm zen zat zan ztr zae zal zqx n (mk_m (rd_b now zwe zup zsl zti zru sv (ztr q)) s) (nI s) := by
  have hqi : vp_in (nI q) 32 := vp_in_nI hq (by decide)
  have eq : (nI q).toNatClampNeg = q := nI_clamp (by omega)
  intro d
  induction d with
  | zero =>
    intro s n hs hn
    have e : s = 6 := by omega
    subst e
    exact (by obtain ⟨m, rfl, hm_⟩ := fu_m hn; exact br_t (by decide) hP)
  | succ d ih =>
    intro s n hs hn
    have h6 : ¬ (6 : Int32) ≤ nI s := nI_ge (b := 6) (by omega) (by decide)
    obtain ⟨m, rfl, hm⟩ := fu_m hn
    refine br_f h6 ?_
    rw [eq]
    have ih' := ih (s + 1) m (by omega) (by omega)
    by_cases h1 : ((sv >>> (nI s &&& 31)) &&& 1) = 0
    · rw [mk_sf (rd_bf (fun z => z.1 h1))] at ih'
      exact br_t h1 (nm_r (nI_1 s) ih')
    by_cases h2 : ((ztr q >>> (nI s &&& 31)) &&& 1) = 0
    · by_cases h3 : rd_o now zwe zup zsl zti zru s
      · rw [mk_st (rd_bt ⟨h1, h2, h3⟩)] at ih'
        exact br_f h1 ⟨hqi, br_t h2 (op_1 now rc ql zae zal zan zat zbr zca zcl zcm zcr zen zfa zfi zho zhs zky zpa zpt zqx zra zre zrp zrs zru zse zsl zst zsu zti ztk ztr ztu zup zwe zwo zto (by omega) h3 _ (br_f rd_1n0 (nm_e (nm_r (nI_1 s) ih'))))⟩
      · rw [mk_sf (rd_bf (fun z => h3 z.2.2))] at ih'
        exact br_f h1 ⟨hqi, br_t h2 (op_0 now rc ql zae zal zan zat zbr zca zcl zcm zcr zen zfa zfi zho zhs zky zpa zpt zqx zra zre zrp zrs zru zse zsl zst zsu zti ztk ztr ztu zup zwe zwo zto (by omega) h3 _ (br_t rfl (nm_r (nI_1 s) ih')))⟩
    · rw [mk_sf (rd_bf (fun z => h2 z.2.1))] at ih'
      exact br_f h1 ⟨hqi, br_f h2 (nm_r (nI_1 s) ih')⟩
theorem ra_run {q : Nat} (hq : q < 32) (sv : Int32) (P : Int32 → Prop) (hP : P (mk_m (rd_b now zwe zup zsl zti zru sv (ztr q)) 6)) : wpX_readyAmong P (nI now, nI rc, nI ql, zse, zto, ztu, zwe, zsl, zpa, zbr, zup, zti, zfa, zcr, zru, zsu, zfi, zrp, zrs, zca, zre, ztk, zho, zhs, zst, zcl, zpt, zky, zwo, zra, zcm, zen, zat, zan, ztr, zae, zal, zqx) sv (nI q) :=
  ⟨7, ra_loop now rc ql zae zal zan zat zbr zca zcl zcm zcr zen zfa zfi zho zhs zky zpa zpt zqx zra zre zrp zrs zru zse zsl zst zsu zti ztk ztr ztu zup zwe zwo zto hq sv P hP 6 0 7 rfl (by omega)⟩
theorem cy_loop {q : Nat} (b : Nat → Bool) (hb1 : ∀ s, s < 6 → b s = true → ∀ P : Int32 → Prop, P 1 → wpY_isReady P (nI now, nI rc, nI nx, nI ql, zwe, zsl, zpa, zti, zfa, zcr, zsu, zsi, zwl, zbr, zup, zrp, zrs, zse, zca, zre, ztk, zho, zhs, zcl, zpt, zky, zwo, zra, zsy, zat, zan, ztr, zcm, zen, zae, zal, zqy, zto, ztu, zso) (nI s) (nI q)) (hb0 : ∀ s, s < 6 → b s = false → ∀ P : Int32 → Prop, P 0 → wpY_isReady P (nI now, nI rc, nI nx, nI ql, zwe, zsl, zpa, zti, zfa, zcr, zsu, zsi, zwl, zbr, zup, zrp, zrs, zse, zca, zre, ztk, zho, zhs, zcl, zpt, zky, zwo, zra, zsy, zat, zan, ztr, zcm, zen, zae, zal, zqy, zto, ztu, zso) (nI s) (nI q))
    (P : Int32 → SY → Prop) (h : wY_choose_4 P (nI q) (nI now) (nI rc) (nI nx) (nI ql) zwe zsl zpa zti zfa zcr zsu zsi zwl zbr zup zrp zrs zse zca zre ztk zho zhs zcl zpt zky zwo zra zsy zat zan ztr zcm zen zae zal zqy zto ztu zso 1 (mk_m b 6) (nI 6)) : ∀ d s n : Nat, s + d = 6 → d < n → wY_choose_4 P (nI q) (nI now) (nI rc) (nI nx) (nI ql) zwe zsl zpa zti zfa zcr zsu zsi zwl zbr zup zrp zrs zse zca zre ztk zho zhs zcl zpt zky zwo zra zsy zat zan ztr zcm zen zae zal zqy zto ztu zso n (mk_m b s) (nI s) := by
  intro d
  induction d with
  | zero =>
    intro s n hs hn
    have e : s = 6 := by omega
    subst e
    exact (by obtain ⟨m, rfl, hm_⟩ := fu_m hn; exact br_t (by decide) (ex_t (by decide) h))
  | succ d ih =>
    intro s n hs hn
    have h6 : ¬ (6 : Int32) ≤ nI s := nI_ge (b := 6) (by omega) (by decide)
    obtain ⟨m, rfl, hm⟩ := fu_m hn
    refine br_f h6 ?_
    have ih' := ih (s + 1) m (by omega) (by omega)
    cases e : b s with
    | true =>
      rw [mk_st e] at ih'
      exact hb1 s (by omega) e _ (br_f rd_1n0 (nm_e (nm_r (nI_1 s) ih')))
    | false =>
      rw [mk_sf e] at ih'
      exact hb0 s (by omega) e _ (br_t rfl (nm_r (nI_1 s) ih'))
end
