/-! both constructors -/
def fl_f (v : Int32) : Nat → Nat → Int32
  | 0 => fun _ => 0
  | i + 1 => upd (fl_f v i) i v
theorem fl_s (v : Int32) {i : Nat} (h : i < 6) : upd (fl_f v i) (nI i).toNatClampNeg v = fl_f v (i + 1) := by rw [nI_clamp (by omega)]; rfl
theorem rn_z (a : Nat → Int32) (s : Int32) : ∀ n, rn_cnt (fun _ => 0) a s n = 0 := by
  intro n
  induction n with
  | zero => rfl
  | succ n ih => rw [rn_s, ih, if_neg (fun z => absurd z.1 (by decide))]
def se_0 : Nat → Int32 := upd (upd (upd (upd (upd (fun _ => 0) 1 100) 2 1) 3 50) 4 10) 5 100
theorem in_X1 (P : SX → Prop) (hP : P (nI 0, nI 0, nI 0, se_0, fun _ => 0, fun _ => 0, fun _ => 0, fl_f 1 6, fl_f 1 6, fun _ => 0, fl_f 1 6, fl_f (-1) 6, fun _ => 0, fun _ => 0, fun _ => 0, fun _ => 0, fun _ => 0, fun _ => 0, fun _ => 0, fl_f 5 6, fl_f 10 6, fl_f 5 6, fl_f (-1) 6, fun _ => 0, fun _ => 0, fun _ => 0, fun _ => 0, fun _ => 0, fun _ => 0, fun _ => 0, fun _ => 0, fun _ => 0, fun _ => 0, fun _ => 0, fun _ => 0, fun _ => 0, fun _ => 0, fun _ => 0)) :
    ∀ d i n : Nat, i + d = 6 → d < n → wX_init_382 P 0 0 0 n (nI i) se_0 (fun _ => 0) (fun _ => 0) (fun _ => 0) (fl_f 1 6) (fl_f 1 6) (fun _ => 0) (fl_f 1 6) (fl_f (-1) 6) (fun _ => 0) (fun _ => 0) (fun _ => 0) (fun _ => 0) (fun _ => 0) (fun _ => 0) (fun _ => 0) (fl_f 5 i) (fl_f 10 i) (fl_f 5 i) (fl_f (-1) i) (fun _ => 0) (fun _ => 0) (fun _ => 0) (fun _ => 0) (fun _ => 0) (fun _ => 0) (fun _ => 0) (fun _ => 0) (fun _ => 0) (fun _ => 0) (fun _ => 0) (fun _ => 0) (fun _ => 0) (fun _ => 0) (fun _ => 0) := by
  intro d
  induction d with
  | zero =>
    intro i n hi hn
    have e : i = 6 := by omega
    subst e
    obtain ⟨m, rfl, hm⟩ := fu_m hn
    exact br_t (by decide) hP
  | succ d ih =>
    intro i n hi hn
    have h6 : i < 6 := by omega
    have hv : vp_in (nI i) 6 := vp_in_nI h6 (by decide)
    obtain ⟨m, rfl, hm⟩ := fu_m hn
    exact br_f (nI_ge (b := 6) h6 (by decide)) ⟨hv, nm_r (fl_s 5 h6) ⟨hv, nm_r (fl_s 10 h6) ⟨hv, nm_r (fl_s 5 h6) ⟨hv, nm_r (fl_s (-1) h6) (nm_r (nI_1 i) (ih (i + 1) m (by omega) (by omega)))⟩⟩⟩⟩
theorem in_X2 (P : SX → Prop) (hP : P (nI 0, nI 0, nI 0, se_0, fun _ => 0, fun _ => 0, fun _ => 0, fl_f 1 6, fl_f 1 6, fun _ => 0, fl_f 1 6, fl_f (-1) 6, fun _ => 0, fun _ => 0, fun _ => 0, fun _ => 0, fun _ => 0, fun _ => 0, fun _ => 0, fl_f 5 6, fl_f 10 6, fl_f 5 6, fl_f (-1) 6, fun _ => 0, fun _ => 0, fun _ => 0, fun _ => 0, fun _ => 0, fun _ => 0, fun _ => 0, fun _ => 0, fun _ => 0, fun _ => 0, fun _ => 0, fun _ => 0, fun _ => 0, fun _ => 0, fun _ => 0)) :
    ∀ d i n : Nat, i + d = 6 → d < n → wX_init_340 P 0 0 0 n (nI i) se_0 (fun _ => 0) (fun _ => 0) (fun _ => 0) (fl_f 1 i) (fl_f 1 i) (fun _ => 0) (fl_f 1 i) (fl_f (-1) i) (fun _ => 0) (fun _ => 0) (fun _ => 0) (fun _ => 0) (fun _ => 0) (fun _ => 0) (fun _ => 0) (fun _ => 0) (fun _ => 0) (fun _ => 0) (fun _ => 0) (fun _ => 0) (fun _ => 0) (fun _ => 0) (fun _ => 0) (fun _ => 0) (fun _ => 0) (fun _ => 0) (fun _ => 0) (fun _ => 0) (fun _ => 0) (fun _ => 0) (fun _ => 0) (fun _ => 0) (fun _ => 0) (fun _ => 0) := by
  intro d
  induction d with
  | zero =>
    intro i n hi hn
    have e : i = 6 := by omega
    subst e
    obtain ⟨m, rfl, hm⟩ := fu_m hn
    exact br_t (by decide) ⟨7, in_X1 P hP 6 0 7 rfl (by omega)⟩
  | succ d ih =>
    intro i n hi hn
    have h6 : i < 6 := by omega
    have hv : vp_in (nI i) 6 := vp_in_nI h6 (by decide)
    have eb : upd (fl_f 1 i) (nI i).toNatClampNeg (vp_nar .boolean 1) = fl_f 1 (i + 1) := by rw [ms_nb1]; exact fl_s 1 h6
    obtain ⟨m, rfl, hm⟩ := fu_m hn
    exact br_f (nI_ge (b := 6) h6 (by decide)) ⟨hv, nm_r (fl_s 1 h6) ⟨hv, nm_r (fl_s 1 h6) ⟨hv, nm_r eb ⟨hv, nm_r (fl_s (-1) h6) (nm_r (nI_1 i) (ih (i + 1) m (by omega) (by omega)))⟩⟩⟩⟩
theorem in_Y (P : SY → Prop) (hP : P (nI 0, nI 0, nI 0, nI 0, fun _ => 0, fl_f 1 6, fl_f 1 6, fl_f (-1) 6, fun _ => 0, fun _ => 0, fun _ => 0, fun _ => 0, fun _ => 0, fun _ => 0, fl_f 1 6, fun _ => 0, fun _ => 0, se_0, fl_f 5 6, fl_f 10 6, fl_f 5 6, fl_f (-1) 6, fun _ => 0, fun _ => 0, fun _ => 0, fun _ => 0, fun _ => 0, fun _ => 0, fun _ => 0, fun _ => 0, fun _ => 0, fun _ => 0, fun _ => 0, fun _ => 0, fun _ => 0, fun _ => 0, fun _ => 0, fun _ => 0, fun _ => 0, fun _ => 0)) :
    ∀ d i n : Nat, i + d = 6 → d < n → wY_init_294 P 0 0 0 0 n (nI i) (fun _ => 0) (fl_f 1 i) (fl_f 1 i) (fl_f (-1) i) (fun _ => 0) (fun _ => 0) (fun _ => 0) (fun _ => 0) (fun _ => 0) (fun _ => 0) (fl_f 1 i) (fun _ => 0) (fun _ => 0) (fun _ => 0) (fl_f 5 i) (fl_f 10 i) (fl_f 5 i) (fl_f (-1) i) (fun _ => 0) (fun _ => 0) (fun _ => 0) (fun _ => 0) (fun _ => 0) (fun _ => 0) (fun _ => 0) (fun _ => 0) (fun _ => 0) (fun _ => 0) (fun _ => 0) (fun _ => 0) (fun _ => 0) (fun _ => 0) (fun _ => 0) (fun _ => 0) (fun _ => 0) (fun _ => 0) := by
  intro d
  induction d with
  | zero =>
    intro i n hi hn
    have e : i = 6 := by omega
    subst e
    obtain ⟨m, rfl, hm⟩ := fu_m hn
    exact br_t (by decide) (nm_e (nm_e (nm_e (nm_e (nm_e hP)))))
  | succ d ih =>
    intro i n hi hn
    have h6 : i < 6 := by omega
    have hv : vp_in (nI i) 6 := vp_in_nI h6 (by decide)
    have eb : upd (fl_f 1 i) (nI i).toNatClampNeg (vp_nar .boolean 1) = fl_f 1 (i + 1) := by rw [ms_nb1]; exact fl_s 1 h6
    obtain ⟨m, rfl, hm⟩ := fu_m hn
    exact br_f (nI_ge (b := 6) h6 (by decide)) ⟨hv, nm_r (fl_s 1 h6) ⟨hv, nm_r (fl_s 1 h6) ⟨hv, nm_r (fl_s (-1) h6) ⟨hv, nm_r eb ⟨hv, nm_r (fl_s 5 h6) ⟨hv, nm_r (fl_s 5 h6) ⟨hv, nm_r (fl_s 10 h6) ⟨hv, nm_r (fl_s (-1) h6) (nm_r (nI_1 i) (ih (i + 1) m (by omega) (by omega)))⟩⟩⟩⟩⟩⟩⟩⟩
theorem in_6 {p : Nat → Prop} (h0 : p 0) (h1 : p 1) (h2 : p 2) (h3 : p 3) (h4 : p 4) (h5 : p 5) : ∀ s, s < 6 → p s := by
  intro s hs
  match s, hs with
  | 0, _ => exact h0
  | 1, _ => exact h1
  | 2, _ => exact h2
  | 3, _ => exact h3
  | 4, _ => exact h4
  | 5, _ => exact h5
theorem in_cli : iv_cli (fl_f 10 6) (fl_f (-1) 6) := in_6 ⟨by decide, Or.inl (by decide)⟩ ⟨by decide, Or.inl (by decide)⟩ ⟨by decide, Or.inl (by decide)⟩ ⟨by decide, Or.inl (by decide)⟩ ⟨by decide, Or.inl (by decide)⟩ ⟨by decide, Or.inl (by decide)⟩
theorem in_srv : iv_srv (fun _ => 0) (fl_f (-1) 6) := in_6 ⟨⟨0, by decide, rfl⟩, Or.inl (by decide)⟩ ⟨⟨0, by decide, rfl⟩, Or.inl (by decide)⟩ ⟨⟨0, by decide, rfl⟩, Or.inl (by decide)⟩ ⟨⟨0, by decide, rfl⟩, Or.inl (by decide)⟩ ⟨⟨0, by decide, rfl⟩, Or.inl (by decide)⟩ ⟨⟨0, by decide, rfl⟩, Or.inl (by decide)⟩
theorem in_set : iv_set se_0 := ⟨by decide, by decide, 50, by decide, by decide⟩
theorem in_e0 : upd (fun _ => 0) 0 0 = (fun _ => 0 : Nat → Int32) := ud_same
theorem in_e6 : upd se_0 6 0 = se_0 := ud_id (by decide)
theorem in_R : i_Rel 0 (nI 0, nI 0, nI 0, se_0, fun _ => 0, fun _ => 0, fun _ => 0, fl_f 1 6, fl_f 1 6, fun _ => 0, fl_f 1 6, fl_f (-1) 6, fun _ => 0, fun _ => 0, fun _ => 0, fun _ => 0, fun _ => 0, fun _ => 0, fun _ => 0, fl_f 5 6, fl_f 10 6, fl_f 5 6, fl_f (-1) 6, fun _ => 0, fun _ => 0, fun _ => 0, fun _ => 0, fun _ => 0, fun _ => 0, fun _ => 0, fun _ => 0, fun _ => 0, fun _ => 0, fun _ => 0, fun _ => 0, fun _ => 0, fun _ => 0, fun _ => 0)
    (nI 0, nI 0, nI 0, nI 0, fun _ => 0, fl_f 1 6, fl_f 1 6, fl_f (-1) 6, fun _ => 0, fun _ => 0, fun _ => 0, fun _ => 0, fun _ => 0, fun _ => 0, fl_f 1 6, fun _ => 0, fun _ => 0, se_0, fl_f 5 6, fl_f 10 6, fl_f 5 6, fl_f (-1) 6, fun _ => 0, fun _ => 0, fun _ => 0, fun _ => 0, fun _ => 0, fun _ => 0, fun _ => 0, fun _ => 0, fun _ => 0, fun _ => 0, fun _ => 0, fun _ => 0, fun _ => 0, fun _ => 0, fun _ => 0, fun _ => 0, fun _ => 0, fun _ => 0) :=
  ⟨0, 0, 0, 0, by omega, by omega, by omega, md_mk (qn := fun _ => 0) in_set in_cli in_srv ⟨by omega, fun j hj => absurd hj (Nat.not_lt_zero _)⟩ (fun s _ => ⟨0, Nat.le_refl _, Or.inl ⟨rfl, rfl, rfl⟩⟩)
    (fun q _ => ⟨⟨0, by decide, rfl⟩, ⟨0, by decide, rfl⟩, ⟨0, by decide, rfl⟩, fun h => absurd h (by decide)⟩) ⟨fun _ _ _ => rfl, fun s _ => by rw [rn_z]; rfl⟩
    ⟨Nat.le_refl _, Nat.le_refl _, by omega, fun _ _ => rfl, fun j hj => by rcases hj with hj | hj <;> omega, fun i j hi _ _ => by rcases hi with hi | hi <;> omega⟩ ⟨rfl, rfl⟩⟩
theorem i_vc0 : wpX_init (fun u => wpY_init (fun v => i_Rel 0 u v)) := by
  refine nm_r in_e0 (nm_e (nm_e (nm_e (nm_e (nm_e (nm_r in_e6 ⟨7, in_X2 _ ?_ 6 0 7 rfl (by omega)⟩))))))
  exact ⟨7, in_Y _ in_R 6 0 7 rfl (by omega)⟩
