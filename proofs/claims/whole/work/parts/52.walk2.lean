def L_m_X5_takeBack : List Nat := [16, 17, 18, 19, 20, 21, 22, 23, 24, 25, 26, 27, 28, 29, 30, 31, 32, 33, 34, 35, 36, 37, 38, 39, 40, 41, 42, 43, 44, 45, 46, 47, 48, 49, 50, 51, 52, 53]
abbrev rm_m_X5_takeBack : Room := { frames := 2, cells := 0, slots := 0, locals := 82 }
theorem f_X5_takeBack_13 : g_Fld wsX5_takeBack RX5 13 5 0 := ⟨RX5, TX5, 3, rfl, by decide +kernel, by decide, by decide +kernel⟩
theorem f_X5_takeBack_18 : g_Fld wsX5_takeBack RX5 18 5 1 := ⟨RX5, TX5, 3, rfl, by decide +kernel, by decide, by decide +kernel⟩
theorem f_X5_takeBack_22 : g_Fld wsX5_takeBack RX5 22 5 2 := ⟨RX5, TX5, 3, rfl, by decide +kernel, by decide, by decide +kernel⟩
theorem p_X5_takeBack_18 : g_FldP wsX5_takeBack RX5 18 5 1 .int := ⟨RX5, TX5, 3, tyX5, rfl, by decide +kernel, by decide, by decide +kernel, tyX5_ok, nmX5, rfl, by decide +kernel⟩
theorem p_X5_takeBack_22 : g_FldP wsX5_takeBack RX5 22 5 2 .int := ⟨RX5, TX5, 3, tyX5, rfl, by decide +kernel, by decide, by decide +kernel, tyX5_ok, nmX5, rfl, by decide +kernel⟩
set_option maxHeartbeats 4000000 in
set_option maxRecDepth 100000 in
theorem w_m_X5_takeBack_0 {X : g_X (g_St)} (C : g_C X cX5_takeBack RX5 wsX5_takeBack rm_m_X5_takeBack 3) (q : g_qV X) (hA : g_ag L_m_X5_takeBack (g_n X) (g_T X)) (x1 : Int32) (σ : g_St) : G X 0 [(0, .ref (g_b X + 22)), (1, .int x1), (2, .ref (g_b X + 16))] [] σ (m_X5_takeBack x1 σ) := by
  have t16 := g_ag_at hA (c := 16) rfl tc16
  have t22 := g_ag_at hA (c := 22) rfl tc22
  have t23 := g_ag_at hA (c := 23) rfl tc23
  unfold m_X5_takeBack
  refine G_iload_n C dX5_takeBack_0 rfl 1 rfl ?_
  refine G_iconst C dX5_takeBack_1 (v := 1) (by decide +kernel) ?_
  refine G_icmp_lt C dX5_takeBack_2 (tgt := 13) (by decide) (fun c1 => ?_) (fun c1 => ?_)
  · exact G_vret C q dX5_takeBack_13
  · refine G_iload_n C dX5_takeBack_5 rfl 1 rfl ?_
    refine G_aload_n C dX5_takeBack_6 rfl 0 rfl ?_
    refine G_getI C f_X5_takeBack_22 t22 rfl dX5_takeBack_7 ?_
    refine G_icmp_le C dX5_takeBack_10 (tgt := 14) (by decide) (fun c2 => ?_) (fun c2 => ?_)
    · refine G_aload_n C dX5_takeBack_14 rfl 0 rfl ?_
      refine G_aload_n C dX5_takeBack_15 rfl 0 rfl ?_
      refine G_getI C f_X5_takeBack_18 t22 rfl dX5_takeBack_16 ?_
      refine G_bipush C dX5_takeBack_19 (v := 30) (by decide +kernel) ?_
      refine G_iadd C dX5_takeBack_21 ?_
      refine G_iload_n C dX5_takeBack_22 rfl 1 rfl ?_
      refine G_isub C dX5_takeBack_23 ?_
      refine G_bipush C dX5_takeBack_24 (v := 30) (by decide +kernel) ?_
      refine G_irem C dX5_takeBack_26 (by decide) ?_
      refine G_putI C p_X5_takeBack_18 t22 rfl rfl rfl dX5_takeBack_27 ?_
      refine G_lts (fun σ3 => ?_)
      refine G_aload_n C dX5_takeBack_30 rfl 0 rfl ?_
      refine G_dup C dX5_takeBack_31 rfl ?_
      refine G_getI C f_X5_takeBack_22 t22 rfl dX5_takeBack_32 ?_
      refine G_iload_n C dX5_takeBack_35 rfl 1 rfl ?_
      refine G_isub C dX5_takeBack_36 ?_
      refine G_putI C p_X5_takeBack_22 t22 rfl rfl rfl dX5_takeBack_37 ?_
      refine G_lts (fun σ4 => ?_)
      refine G_aload_n C dX5_takeBack_40 rfl 2 rfl ?_
      refine G_aload_n C dX5_takeBack_41 rfl 0 rfl ?_
      refine G_getR C f_X5_takeBack_13 t22 rfl dX5_takeBack_42 ?_
      refine G_aload_n C dX5_takeBack_45 rfl 0 rfl ?_
      refine G_getI C f_X5_takeBack_18 t22 rfl dX5_takeBack_46 ?_
      refine G_chk (fun h5 => ?_)
      refine G_aald C t23 h5 dX5_takeBack_49 ?_
      refine G_callV (rest := []) (fun a ha => g_runV C (nargs := 1) (As := [.ref (g_b X + (24 + (σ4.1 22 1).toNatClampNeg))]) (rest := []) gX5_takeBack_X4_unpackFrom rfl (by decide +kernel) rfl t16 rfl rfl rfl rfl dX5_takeBack_50 (k_m_X4_unpackFrom_R X.1.2.1 X.2.1 (g_n X) (g_T X) (g_ag_sub hA (by decide +kernel)) (24 + (σ4.1 22 1).toNatClampNeg) (g_rowh hA (b0 := 24) (cnt := 30) (m := 39) (by decide +kernel) h5) σ4 a ha)) (fun σ7 => ?_)
      exact G_vret C q dX5_takeBack_53
    · exact G_vret C q dX5_takeBack_13
theorem k_m_X5_takeBack (l : Launch) (E : g_E) (n : Nat) (T : Nat → g_Sh) (hA : g_ag L_m_X5_takeBack n T) (x1 : Int32) (σ : g_St) (a : g_St) (h : m_X5_takeBack x1 σ = some a) : Met l yX5_takeBack wsX5_takeBack rm_m_X5_takeBack (g_Pc E n T [.ref (E.2.1 + 22), .int x1, .ref (E.2.1 + 16)] σ) (g_Qv E n T a) 0 0 (g_A E) :=
  g_metV (by decide +kernel) rfl rfl (Nat.le_of_ble_eq_true rfl) (fun M Qf C q => by rw [← h]; exact w_m_X5_takeBack_0 C q hA x1 σ)
def L_m_X7_setUntold : List Nat := [13, 15]
abbrev rm_m_X7_setUntold : Room := { frames := 0, cells := 0, slots := 0, locals := 0 }
theorem f_X7_setUntold_15 : g_Fld wsX7_setUntold RX7 15 7 1 := ⟨RX7, TX7, 6, rfl, by decide +kernel, by decide, by decide +kernel⟩
theorem p_X7_setUntold_21 : g_FldP wsX7_setUntold RX7 21 7 2 .int := ⟨RX7, TX7, 6, tyX7, rfl, by decide +kernel, by decide, by decide +kernel, tyX7_ok, nmX7, rfl, by decide +kernel⟩
theorem p_X7_setUntold_25 : g_FldP wsX7_setUntold RX7 25 7 3 .int := ⟨RX7, TX7, 6, tyX7, rfl, by decide +kernel, by decide, by decide +kernel, tyX7_ok, nmX7, rfl, by decide +kernel⟩
theorem p_X7_setUntold_28 : g_FldP wsX7_setUntold RX7 28 7 4 .int := ⟨RX7, TX7, 6, tyX7, rfl, by decide +kernel, by decide, by decide +kernel, tyX7_ok, nmX7, rfl, by decide +kernel⟩
theorem p_X7_setUntold_31 : g_FldP wsX7_setUntold RX7 31 7 5 .boolean := ⟨RX7, TX7, 6, tyX7, rfl, by decide +kernel, by decide, by decide +kernel, tyX7_ok, nmX7, rfl, by decide +kernel⟩
set_option maxHeartbeats 4000000 in
set_option maxRecDepth 100000 in
theorem w_m_X7_setUntold_0 {X : g_X (g_St)} (C : g_C X cX7_setUntold RX7 wsX7_setUntold rm_m_X7_setUntold 1) (q : g_qV X) (hA : g_ag L_m_X7_setUntold (g_n X) (g_T X)) (σ : g_St) : G X 0 [(0, .ref (g_b X + 13))] [] σ (m_X7_setUntold σ) := by
  have t13 := g_ag_at hA (c := 13) rfl tc13
  have t15 := g_ag_at hA (c := 15) rfl tc15
  unfold m_X7_setUntold
  refine G_aload_n C dX7_setUntold_0 rfl 0 rfl ?_
  refine G_iconst C dX7_setUntold_1 (v := 0) (by decide +kernel) ?_
  refine G_putI C p_X7_setUntold_21 t13 rfl rfl rfl dX7_setUntold_2 ?_
  refine G_lts (fun σ1 => ?_)
  refine G_aload_n C dX7_setUntold_5 rfl 0 rfl ?_
  refine G_iconst C dX7_setUntold_6 (v := 0) (by decide +kernel) ?_
  refine G_putI C p_X7_setUntold_25 t13 rfl rfl rfl dX7_setUntold_7 ?_
  refine G_lts (fun σ2 => ?_)
  refine G_aload_n C dX7_setUntold_10 rfl 0 rfl ?_
  refine G_iconst C dX7_setUntold_11 (v := 4) (by decide +kernel) ?_
  refine G_putI C p_X7_setUntold_28 t13 rfl rfl rfl dX7_setUntold_12 ?_
  refine G_lts (fun σ3 => ?_)
  refine G_aload_n C dX7_setUntold_15 rfl 0 rfl ?_
  refine G_iconst C dX7_setUntold_16 (v := 1) (by decide +kernel) ?_
  refine G_putI C p_X7_setUntold_31 t13 rfl (g_nz (by decide)) (g_fz (by decide)) dX7_setUntold_17 ?_
  refine G_lts (fun σ4 => ?_)
  refine G_aload_n C dX7_setUntold_20 rfl 0 rfl ?_
  refine G_getR C f_X7_setUntold_15 t13 rfl dX7_setUntold_21 ?_
  refine G_iconst C dX7_setUntold_24 (v := 0) (by decide +kernel) ?_
  refine G_bipush C dX7_setUntold_25 (v := 6) (by decide +kernel) ?_
  refine G_astk C t15 (by decide +kernel) (k := 0) rfl dX7_setUntold_27 ?_
  refine G_lts (fun σ5 => ?_)
  refine G_aload_n C dX7_setUntold_28 rfl 0 rfl ?_
  refine G_getR C f_X7_setUntold_15 t13 rfl dX7_setUntold_29 ?_
  refine G_iconst C dX7_setUntold_32 (v := 1) (by decide +kernel) ?_
  refine G_bipush C dX7_setUntold_33 (v := 18) (by decide +kernel) ?_
  refine G_astk C t15 (by decide +kernel) (k := 1) rfl dX7_setUntold_35 ?_
  refine G_lts (fun σ6 => ?_)
  refine G_aload_n C dX7_setUntold_36 rfl 0 rfl ?_
  refine G_getR C f_X7_setUntold_15 t13 rfl dX7_setUntold_37 ?_
  refine G_iconst C dX7_setUntold_40 (v := 2) (by decide +kernel) ?_
  refine G_bipush C dX7_setUntold_41 (v := 18) (by decide +kernel) ?_
  refine G_astk C t15 (by decide +kernel) (k := 2) rfl dX7_setUntold_43 ?_
  refine G_lts (fun σ7 => ?_)
  refine G_aload_n C dX7_setUntold_44 rfl 0 rfl ?_
  refine G_getR C f_X7_setUntold_15 t13 rfl dX7_setUntold_45 ?_
  refine G_iconst C dX7_setUntold_48 (v := 3) (by decide +kernel) ?_
  refine G_bipush C dX7_setUntold_49 (v := 65) (by decide +kernel) ?_
  refine G_astk C t15 (by decide +kernel) (k := 3) rfl dX7_setUntold_51 ?_
  refine G_lts (fun σ8 => ?_)
  exact G_vret C q dX7_setUntold_52
theorem k_m_X7_setUntold (l : Launch) (E : g_E) (n : Nat) (T : Nat → g_Sh) (hA : g_ag L_m_X7_setUntold n T) (σ : g_St) (a : g_St) (h : m_X7_setUntold σ = some a) : Met l yX7_setUntold wsX7_setUntold rm_m_X7_setUntold (g_Pc E n T [.ref (E.2.1 + 13)] σ) (g_Qv E n T a) 0 0 (g_A E) :=
  g_metV (by decide +kernel) rfl rfl (Nat.le_of_ble_eq_true rfl) (fun M Qf C q => by rw [← h]; exact w_m_X7_setUntold_0 C q hA σ)
def L_m_X7_setUntold_3 : List Nat := [3, 5]
abbrev rm_m_X7_setUntold_3 : Room := { frames := 0, cells := 0, slots := 0, locals := 0 }
set_option maxHeartbeats 4000000 in
set_option maxRecDepth 100000 in
theorem w_m_X7_setUntold_3_0 {X : g_X (g_St)} (C : g_C X cX7_setUntold RX7 wsX7_setUntold rm_m_X7_setUntold_3 1) (q : g_qV X) (hA : g_ag L_m_X7_setUntold_3 (g_n X) (g_T X)) (σ : g_St) : G X 0 [(0, .ref (g_b X + 3))] [] σ (m_X7_setUntold_3 σ) := by
  have t3 := g_ag_at hA (c := 3) rfl tc3
  have t5 := g_ag_at hA (c := 5) rfl tc5
  unfold m_X7_setUntold_3
  refine G_aload_n C dX7_setUntold_0 rfl 0 rfl ?_
  refine G_iconst C dX7_setUntold_1 (v := 0) (by decide +kernel) ?_
  refine G_putI C p_X7_setUntold_21 t3 rfl rfl rfl dX7_setUntold_2 ?_
  refine G_lts (fun σ1 => ?_)
  refine G_aload_n C dX7_setUntold_5 rfl 0 rfl ?_
  refine G_iconst C dX7_setUntold_6 (v := 0) (by decide +kernel) ?_
  refine G_putI C p_X7_setUntold_25 t3 rfl rfl rfl dX7_setUntold_7 ?_
  refine G_lts (fun σ2 => ?_)
  refine G_aload_n C dX7_setUntold_10 rfl 0 rfl ?_
  refine G_iconst C dX7_setUntold_11 (v := 4) (by decide +kernel) ?_
  refine G_putI C p_X7_setUntold_28 t3 rfl rfl rfl dX7_setUntold_12 ?_
  refine G_lts (fun σ3 => ?_)
  refine G_aload_n C dX7_setUntold_15 rfl 0 rfl ?_
  refine G_iconst C dX7_setUntold_16 (v := 1) (by decide +kernel) ?_
  refine G_putI C p_X7_setUntold_31 t3 rfl (g_nz (by decide)) (g_fz (by decide)) dX7_setUntold_17 ?_
  refine G_lts (fun σ4 => ?_)
  refine G_aload_n C dX7_setUntold_20 rfl 0 rfl ?_
  refine G_getR C f_X7_setUntold_15 t3 rfl dX7_setUntold_21 ?_
  refine G_iconst C dX7_setUntold_24 (v := 0) (by decide +kernel) ?_
  refine G_bipush C dX7_setUntold_25 (v := 6) (by decide +kernel) ?_
  refine G_astk C t5 (by decide +kernel) (k := 0) rfl dX7_setUntold_27 ?_
  refine G_lts (fun σ5 => ?_)
  refine G_aload_n C dX7_setUntold_28 rfl 0 rfl ?_
  refine G_getR C f_X7_setUntold_15 t3 rfl dX7_setUntold_29 ?_
  refine G_iconst C dX7_setUntold_32 (v := 1) (by decide +kernel) ?_
  refine G_bipush C dX7_setUntold_33 (v := 18) (by decide +kernel) ?_
  refine G_astk C t5 (by decide +kernel) (k := 1) rfl dX7_setUntold_35 ?_
  refine G_lts (fun σ6 => ?_)
  refine G_aload_n C dX7_setUntold_36 rfl 0 rfl ?_
  refine G_getR C f_X7_setUntold_15 t3 rfl dX7_setUntold_37 ?_
  refine G_iconst C dX7_setUntold_40 (v := 2) (by decide +kernel) ?_
  refine G_bipush C dX7_setUntold_41 (v := 18) (by decide +kernel) ?_
  refine G_astk C t5 (by decide +kernel) (k := 2) rfl dX7_setUntold_43 ?_
  refine G_lts (fun σ7 => ?_)
  refine G_aload_n C dX7_setUntold_44 rfl 0 rfl ?_
  refine G_getR C f_X7_setUntold_15 t3 rfl dX7_setUntold_45 ?_
  refine G_iconst C dX7_setUntold_48 (v := 3) (by decide +kernel) ?_
  refine G_bipush C dX7_setUntold_49 (v := 65) (by decide +kernel) ?_
  refine G_astk C t5 (by decide +kernel) (k := 3) rfl dX7_setUntold_51 ?_
  refine G_lts (fun σ8 => ?_)
  exact G_vret C q dX7_setUntold_52
theorem k_m_X7_setUntold_3 (l : Launch) (E : g_E) (n : Nat) (T : Nat → g_Sh) (hA : g_ag L_m_X7_setUntold_3 n T) (σ : g_St) (a : g_St) (h : m_X7_setUntold_3 σ = some a) : Met l yX7_setUntold wsX7_setUntold rm_m_X7_setUntold_3 (g_Pc E n T [.ref (E.2.1 + 3)] σ) (g_Qv E n T a) 0 0 (g_A E) :=
  g_metV (by decide +kernel) rfl rfl (Nat.le_of_ble_eq_true rfl) (fun M Qf C q => by rw [← h]; exact w_m_X7_setUntold_3_0 C q hA σ)
def L_m_J7_fill_10 : List Nat := [10]
abbrev rm_m_J7_fill_10 : Room := { frames := 0, cells := 0, slots := 0, locals := 0 }
set_option maxHeartbeats 4000000 in
set_option maxRecDepth 100000 in
theorem w_m_J7_fill_10_5 {X : g_X (g_St)} (C : g_C X cJ7_fill_53178 RJ7 wsJ7_fill_53178 rm_m_J7_fill_10 4) (q : g_qV X) (hA : g_ag L_m_J7_fill_10 (g_n X) (g_T X)) (N : Nat) : ∀ (fu : Nat) (x1 : Int32) (x2 : Int32) (x3 : Int32) (σ : g_St), G X 5 [(0, .ref (g_b X + 10)), (1, .int x1), (2, .int x2), (3, .int x3)] [] σ (m_J7_fill_10_5 N fu x1 x2 x3 σ) := by
  have t10 := g_ag_at hA (c := 10) rfl tc10
  intro fu
  induction fu with
  | zero => intro x1 x2 x3 σ; exact G_none
  | succ fu ih =>
    intro x1 x2 x3 σ
    unfold m_J7_fill_10_5
    refine G_iload_n C dJ7_fill_53178_5 rfl 2 rfl ?_
    refine G_iload_n C dJ7_fill_53178_6 rfl 3 rfl ?_
    refine G_icmp_ge C dJ7_fill_53178_7 (tgt := 20) (by decide) (fun c1 => ?_) (fun c1 => ?_)
    · exact G_vret C q dJ7_fill_53178_20
    · refine G_aload_n C dJ7_fill_53178_10 rfl 0 rfl ?_
      refine G_iload_n C dJ7_fill_53178_11 rfl 2 rfl ?_
      refine G_iload_n C dJ7_fill_53178_12 rfl 1 rfl ?_
      refine G_chk (fun h2 => ?_)
      refine G_ast C t10 h2 dJ7_fill_53178_13 ?_
      refine G_lts (fun σ3 => ?_)
      refine G_iinc C dJ7_fill_53178_14 2 rfl (v := (x2 + (1 : Int32))) (by rfl) rfl (lv' := [(2, .int (x2 + (1 : Int32))), (0, .ref (g_b X + 10)), (1, .int x1), (3, .int x3)]) rfl ?_
      refine G_ltv (fun v => [(2, .int v), (0, .ref (g_b X + 10)), (1, .int x1), (3, .int x3)]) (fun v4 => ?_)
      refine G_goto C dJ7_fill_53178_17 (tgt := 5) (by decide) ?_
      exact G_sub (ih x1 v4 x3 σ3) [1, 2, 0, 3] rfl
set_option maxHeartbeats 4000000 in
set_option maxRecDepth 100000 in
theorem w_m_J7_fill_10_0 {X : g_X (g_St)} (C : g_C X cJ7_fill_53178 RJ7 wsJ7_fill_53178 rm_m_J7_fill_10 4) (q : g_qV X) (hA : g_ag L_m_J7_fill_10 (g_n X) (g_T X)) (N : Nat) (x1 : Int32) (σ : g_St) : G X 0 [(0, .ref (g_b X + 10)), (1, .int x1)] [] σ (m_J7_fill_10 N x1 σ) := by
  have t10 := g_ag_at hA (c := 10) rfl tc10
  unfold m_J7_fill_10
  refine G_iconst C dJ7_fill_53178_0 (v := 0) (by decide +kernel) ?_
  refine G_istore_n C dJ7_fill_53178_1 rfl rfl (lv' := [(2, .int (0 : Int32)), (0, .ref (g_b X + 10)), (1, .int x1)]) rfl ?_
  refine G_aload_n C dJ7_fill_53178_2 rfl 1 rfl ?_
  refine G_alen C t10 (v := 8) (by decide +kernel) dJ7_fill_53178_3 ?_
  refine G_istore_n C dJ7_fill_53178_4 rfl rfl (lv' := [(3, .int (8 : Int32)), (2, .int (0 : Int32)), (0, .ref (g_b X + 10)), (1, .int x1)]) rfl ?_
  exact G_sub (w_m_J7_fill_10_5 C q hA N N x1 (0 : Int32) (8 : Int32) σ) [2, 3, 1, 0] rfl
theorem k_m_J7_fill_10 (l : Launch) (E : g_E) (n : Nat) (T : Nat → g_Sh) (hA : g_ag L_m_J7_fill_10 n T) (N : Nat) (x1 : Int32) (σ : g_St) (a : g_St) (h : m_J7_fill_10 N x1 σ = some a) : Met l yJ7_fill_53178 wsJ7_fill_53178 rm_m_J7_fill_10 (g_Pc E n T [.ref (E.2.1 + 10), .int x1] σ) (g_Qv E n T a) 0 0 (g_A E) :=
  g_metV (by decide +kernel) rfl rfl (Nat.le_of_ble_eq_true rfl) (fun M Qf C q => by rw [← h]; exact w_m_J7_fill_10_0 C q hA N x1 σ)
def L_m_X6_begin : List Nat := [2, 3, 5, 6, 10]
abbrev rm_m_X6_begin : Room := { frames := 1, cells := 0, slots := 0, locals := 23 }
theorem f_X6_begin_12 : g_Fld wsX6_begin RX6 12 6 0 := ⟨RX6, TX6, 12, rfl, by decide +kernel, by decide, by decide +kernel⟩
theorem f_X6_begin_21 : g_Fld wsX6_begin RX6 21 6 1 := ⟨RX6, TX6, 12, rfl, by decide +kernel, by decide, by decide +kernel⟩
theorem f_X6_begin_59 : g_Fld wsX6_begin RX6 59 4 3 := ⟨RX4, TX4, 8, rfl, by decide +kernel, by decide, by decide +kernel⟩
theorem p_X6_begin_32 : g_FldP wsX6_begin RX6 32 6 10 .int := ⟨RX6, TX6, 12, tyX6, rfl, by decide +kernel, by decide, by decide +kernel, tyX6_ok, nmX6, rfl, by decide +kernel⟩
theorem p_X6_begin_43 : g_FldP wsX6_begin RX6 43 6 3 .int := ⟨RX6, TX6, 12, tyX6, rfl, by decide +kernel, by decide, by decide +kernel, tyX6_ok, nmX6, rfl, by decide +kernel⟩
theorem p_X6_begin_68 : g_FldP wsX6_begin RX6 68 6 4 .int := ⟨RX6, TX6, 12, tyX6, rfl, by decide +kernel, by decide, by decide +kernel, tyX6_ok, nmX6, rfl, by decide +kernel⟩
theorem p_X6_begin_71 : g_FldP wsX6_begin RX6 71 6 5 .int := ⟨RX6, TX6, 12, tyX6, rfl, by decide +kernel, by decide, by decide +kernel, tyX6_ok, nmX6, rfl, by decide +kernel⟩
theorem p_X6_begin_74 : g_FldP wsX6_begin RX6 74 6 6 .int := ⟨RX6, TX6, 12, tyX6, rfl, by decide +kernel, by decide, by decide +kernel, tyX6_ok, nmX6, rfl, by decide +kernel⟩
theorem p_X6_begin_77 : g_FldP wsX6_begin RX6 77 6 7 .int := ⟨RX6, TX6, 12, tyX6, rfl, by decide +kernel, by decide, by decide +kernel, tyX6_ok, nmX6, rfl, by decide +kernel⟩
theorem p_X6_begin_80 : g_FldP wsX6_begin RX6 80 6 8 .boolean := ⟨RX6, TX6, 12, tyX6, rfl, by decide +kernel, by decide, by decide +kernel, tyX6_ok, nmX6, rfl, by decide +kernel⟩
theorem p_X6_begin_84 : g_FldP wsX6_begin RX6 84 6 9 .boolean := ⟨RX6, TX6, 12, tyX6, rfl, by decide +kernel, by decide, by decide +kernel, tyX6_ok, nmX6, rfl, by decide +kernel⟩
theorem p_X6_begin_87 : g_FldP wsX6_begin RX6 87 6 11 .int := ⟨RX6, TX6, 12, tyX6, rfl, by decide +kernel, by decide, by decide +kernel, tyX6_ok, nmX6, rfl, by decide +kernel⟩
set_option maxHeartbeats 4000000 in
set_option maxRecDepth 100000 in
theorem w_m_X6_begin_0 {X : g_X (g_St)} (C : g_C X cX6_begin RX6 wsX6_begin rm_m_X6_begin 1) (q : g_qV X) (hA : g_ag L_m_X6_begin (g_n X) (g_T X)) (N : Nat) (σ : g_St) : G X 0 [(0, .ref (g_b X + 2))] [] σ (m_X6_begin N σ) := by
  have t2 := g_ag_at hA (c := 2) rfl tc2
  have t3 := g_ag_at hA (c := 3) rfl tc3
  have t6 := g_ag_at hA (c := 6) rfl tc6
  unfold m_X6_begin
  refine G_aload_n C dX6_begin_0 rfl 0 rfl ?_
  refine G_getR C f_X6_begin_12 t2 rfl dX6_begin_1 ?_
  refine G_callV (rest := []) (fun a ha => g_runV C (nargs := 0) (As := []) (rest := []) gX6_begin_X7_setUntold rfl (by decide +kernel) rfl t3 rfl rfl rfl rfl dX6_begin_4 (k_m_X7_setUntold_3 X.1.2.1 X.2.1 (g_n X) (g_T X) (g_ag_sub hA (by decide +kernel)) σ a ha)) (fun σ1 => ?_)
  refine G_aload_n C dX6_begin_7 rfl 0 rfl ?_
  refine G_getR C f_X6_begin_21 t2 rfl dX6_begin_8 ?_
  refine G_getR C f_X6_begin_59 t6 rfl dX6_begin_11 ?_
  refine G_iconst C dX6_begin_14 (v := -1) (by decide +kernel) ?_
  refine G_callV (rest := []) (fun a ha => g_runS C (nargs := 2) (As := [.ref (g_b X + 10), .int (-1 : Int32)]) (rest := []) gX6_begin_J7_fill_53178 rfl (by decide +kernel) rfl rfl rfl dX6_begin_15 (k_m_J7_fill_10 X.1.2.1 X.2.1 (g_n X) (g_T X) (g_ag_sub hA (by decide +kernel)) N (-1 : Int32) σ1 a ha)) (fun σ2 => ?_)
  refine G_aload_n C dX6_begin_18 rfl 0 rfl ?_
  refine G_iconst C dX6_begin_19 (v := 0) (by decide +kernel) ?_
  refine G_putI C p_X6_begin_43 t2 rfl rfl rfl dX6_begin_20 ?_
  refine G_lts (fun σ3 => ?_)
  refine G_aload_n C dX6_begin_23 rfl 0 rfl ?_
  refine G_iconst C dX6_begin_24 (v := 0) (by decide +kernel) ?_
  refine G_putI C p_X6_begin_68 t2 rfl rfl rfl dX6_begin_25 ?_
  refine G_lts (fun σ4 => ?_)
  refine G_aload_n C dX6_begin_28 rfl 0 rfl ?_
  refine G_iconst C dX6_begin_29 (v := 0) (by decide +kernel) ?_
  refine G_putI C p_X6_begin_71 t2 rfl rfl rfl dX6_begin_30 ?_
  refine G_lts (fun σ5 => ?_)
  refine G_aload_n C dX6_begin_33 rfl 0 rfl ?_
  refine G_iconst C dX6_begin_34 (v := 0) (by decide +kernel) ?_
  refine G_putI C p_X6_begin_74 t2 rfl rfl rfl dX6_begin_35 ?_
  refine G_lts (fun σ6 => ?_)
  refine G_aload_n C dX6_begin_38 rfl 0 rfl ?_
  refine G_iconst C dX6_begin_39 (v := 0) (by decide +kernel) ?_
  refine G_putI C p_X6_begin_77 t2 rfl rfl rfl dX6_begin_40 ?_
  refine G_lts (fun σ7 => ?_)
  refine G_aload_n C dX6_begin_43 rfl 0 rfl ?_
  refine G_iconst C dX6_begin_44 (v := 0) (by decide +kernel) ?_
  refine G_putI C p_X6_begin_80 t2 rfl (g_nz (by decide)) (g_fz (by decide)) dX6_begin_45 ?_
  refine G_lts (fun σ8 => ?_)
  refine G_aload_n C dX6_begin_48 rfl 0 rfl ?_
  refine G_iconst C dX6_begin_49 (v := 0) (by decide +kernel) ?_
  refine G_putI C p_X6_begin_84 t2 rfl (g_nz (by decide)) (g_fz (by decide)) dX6_begin_50 ?_
  refine G_lts (fun σ9 => ?_)
  refine G_aload_n C dX6_begin_53 rfl 0 rfl ?_
  refine G_iconst C dX6_begin_54 (v := 0) (by decide +kernel) ?_
  refine G_putI C p_X6_begin_32 t2 rfl rfl rfl dX6_begin_55 ?_
  refine G_lts (fun σ10 => ?_)
  refine G_aload_n C dX6_begin_58 rfl 0 rfl ?_
  refine G_iconst C dX6_begin_59 (v := -1) (by decide +kernel) ?_
  refine G_putI C p_X6_begin_87 t2 rfl rfl rfl dX6_begin_60 ?_
  refine G_lts (fun σ11 => ?_)
  exact G_vret C q dX6_begin_63
theorem k_m_X6_begin (l : Launch) (E : g_E) (n : Nat) (T : Nat → g_Sh) (hA : g_ag L_m_X6_begin n T) (N : Nat) (σ : g_St) (a : g_St) (h : m_X6_begin N σ = some a) : Met l yX6_begin wsX6_begin rm_m_X6_begin (g_Pc E n T [.ref (E.2.1 + 2)] σ) (g_Qv E n T a) 0 0 (g_A E) :=
  g_metV (by decide +kernel) rfl rfl (Nat.le_of_ble_eq_true rfl) (fun M Qf C q => by rw [← h]; exact w_m_X6_begin_0 C q hA N σ)
def L_m_X6_numbersOf : List Nat := []
abbrev rm_m_X6_numbersOf : Room := { frames := 0, cells := 0, slots := 0, locals := 0 }
set_option maxHeartbeats 4000000 in
set_option maxRecDepth 100000 in
theorem w_m_X6_numbersOf_0 {X : g_X (Int32 × g_St)} (C : g_C X cX6_numbersOf RX6 wsX6_numbersOf rm_m_X6_numbersOf 1) (q : g_qI X) (hA : g_ag L_m_X6_numbersOf (g_n X) (g_T X)) (x0 : Int32) (σ : g_St) : G X 0 [(0, .int x0)] [] σ (m_X6_numbersOf x0 σ) := by
  unfold m_X6_numbersOf
  refine G_iload_n C dX6_numbersOf_0 rfl 0 rfl ?_
  refine G_ite (fun e1 => ?_) (fun e1 => ?_)
  · refine G_tsIn C dX6_numbersOf_1 e1 (off := 55) (tgt := 56) (by decide +kernel) ?_
    refine G_iconst C dX6_numbersOf_56 (v := 2) (by decide +kernel) ?_
    exact G_iret C q dX6_numbersOf_57
  · refine G_ite (fun e2 => ?_) (fun e2 => ?_)
    · refine G_tsIn C dX6_numbersOf_1 e2 (off := 63) (tgt := 64) (by decide +kernel) ?_
      refine G_iconst C dX6_numbersOf_64 (v := 0) (by decide +kernel) ?_
      exact G_iret C q dX6_numbersOf_65
    · refine G_ite (fun e3 => ?_) (fun e3 => ?_)
      · refine G_tsIn C dX6_numbersOf_1 e3 (off := 61) (tgt := 62) (by decide +kernel) ?_
        refine G_iconst C dX6_numbersOf_62 (v := 4) (by decide +kernel) ?_
        exact G_iret C q dX6_numbersOf_63
      · refine G_ite (fun e4 => ?_) (fun e4 => ?_)
        · refine G_tsIn C dX6_numbersOf_1 e4 (off := 63) (tgt := 64) (by decide +kernel) ?_
          refine G_iconst C dX6_numbersOf_64 (v := 0) (by decide +kernel) ?_
          exact G_iret C q dX6_numbersOf_65
        · refine G_ite (fun e5 => ?_) (fun e5 => ?_)
          · refine G_tsIn C dX6_numbersOf_1 e5 (off := 57) (tgt := 58) (by decide +kernel) ?_
            refine G_iconst C dX6_numbersOf_58 (v := 3) (by decide +kernel) ?_
            exact G_iret C q dX6_numbersOf_59
          · refine G_ite (fun e6 => ?_) (fun e6 => ?_)
            · refine G_tsIn C dX6_numbersOf_1 e6 (off := 63) (tgt := 64) (by decide +kernel) ?_
              refine G_iconst C dX6_numbersOf_64 (v := 0) (by decide +kernel) ?_
              exact G_iret C q dX6_numbersOf_65
            · refine G_ite (fun e7 => ?_) (fun e7 => ?_)
              · refine G_tsIn C dX6_numbersOf_1 e7 (off := 63) (tgt := 64) (by decide +kernel) ?_
                refine G_iconst C dX6_numbersOf_64 (v := 0) (by decide +kernel) ?_
                exact G_iret C q dX6_numbersOf_65
              · refine G_ite (fun e8 => ?_) (fun e8 => ?_)
                · refine G_tsIn C dX6_numbersOf_1 e8 (off := 63) (tgt := 64) (by decide +kernel) ?_
                  refine G_iconst C dX6_numbersOf_64 (v := 0) (by decide +kernel) ?_
                  exact G_iret C q dX6_numbersOf_65
                · refine G_ite (fun e9 => ?_) (fun e9 => ?_)
                  · refine G_tsIn C dX6_numbersOf_1 e9 (off := 63) (tgt := 64) (by decide +kernel) ?_
                    refine G_iconst C dX6_numbersOf_64 (v := 0) (by decide +kernel) ?_
                    exact G_iret C q dX6_numbersOf_65
                  · refine G_ite (fun e10 => ?_) (fun e10 => ?_)
                    · refine G_tsIn C dX6_numbersOf_1 e10 (off := 59) (tgt := 60) (by decide +kernel) ?_
                      refine G_iconst C dX6_numbersOf_60 (v := 2) (by decide +kernel) ?_
                      exact G_iret C q dX6_numbersOf_61
                    · refine G_tsOut C dX6_numbersOf_1 (by have u0 := lv_neT e1 (a := 112) (by decide +kernel); have u1 := lv_neT e2 (a := 113) (by decide +kernel); have u2 := lv_neT e3 (a := 114) (by decide +kernel); have u3 := lv_neT e4 (a := 115) (by decide +kernel); have u4 := lv_neT e5 (a := 116) (by decide +kernel); have u5 := lv_neT e6 (a := 117) (by decide +kernel); have u6 := lv_neT e7 (a := 118) (by decide +kernel); have u7 := lv_neT e8 (a := 119) (by decide +kernel); have u8 := lv_neT e9 (a := 120) (by decide +kernel); have u9 := lv_neT e10 (a := 121) (by decide +kernel); omega) (tgt := 64) (by decide) ?_
                      refine G_iconst C dX6_numbersOf_64 (v := 0) (by decide +kernel) ?_
                      exact G_iret C q dX6_numbersOf_65
theorem k_m_X6_numbersOf (l : Launch) (E : g_E) (n : Nat) (T : Nat → g_Sh) (hA : g_ag L_m_X6_numbersOf n T) (x0 : Int32) (σ : g_St) (a : Int32 × g_St) (h : m_X6_numbersOf x0 σ = some a) : Met l yX6_numbersOf wsX6_numbersOf rm_m_X6_numbersOf (g_Pc E n T [.int x0] σ) (g_Qi E n T a) 0 0 (g_A E) :=
  g_metI (by decide +kernel) rfl rfl (Nat.le_of_ble_eq_true rfl) (fun M Qf C q => by rw [← h]; exact w_m_X6_numbersOf_0 C q hA x0 σ)
def L_m_X6_fail : List Nat := [2]
abbrev rm_m_X6_fail : Room := { frames := 0, cells := 0, slots := 0, locals := 0 }
theorem p_X6_fail_32 : g_FldP wsX6_fail RX6 32 6 10 .int := ⟨RX6, TX6, 12, tyX6, rfl, by decide +kernel, by decide, by decide +kernel, tyX6_ok, nmX6, rfl, by decide +kernel⟩
theorem p_X6_fail_87 : g_FldP wsX6_fail RX6 87 6 11 .int := ⟨RX6, TX6, 12, tyX6, rfl, by decide +kernel, by decide, by decide +kernel, tyX6_ok, nmX6, rfl, by decide +kernel⟩
set_option maxHeartbeats 4000000 in
set_option maxRecDepth 100000 in
theorem w_m_X6_fail_0 {X : g_X (g_St)} (C : g_C X cX6_fail RX6 wsX6_fail rm_m_X6_fail 3) (q : g_qV X) (hA : g_ag L_m_X6_fail (g_n X) (g_T X)) (x1 : Int32) (x2 : Int32) (σ : g_St) : G X 0 [(0, .ref (g_b X + 2)), (1, .int x1), (2, .int x2)] [] σ (m_X6_fail x1 x2 σ) := by
  have t2 := g_ag_at hA (c := 2) rfl tc2
  unfold m_X6_fail
  refine G_aload_n C dX6_fail_0 rfl 0 rfl ?_
  refine G_iload_n C dX6_fail_1 rfl 1 rfl ?_
  refine G_putI C p_X6_fail_32 t2 rfl rfl rfl dX6_fail_2 ?_
  refine G_lts (fun σ1 => ?_)
  refine G_aload_n C dX6_fail_5 rfl 0 rfl ?_
  refine G_iload_n C dX6_fail_6 rfl 2 rfl ?_
  refine G_putI C p_X6_fail_87 t2 rfl rfl rfl dX6_fail_7 ?_
  refine G_lts (fun σ2 => ?_)
  exact G_vret C q dX6_fail_10
theorem k_m_X6_fail (l : Launch) (E : g_E) (n : Nat) (T : Nat → g_Sh) (hA : g_ag L_m_X6_fail n T) (x1 : Int32) (x2 : Int32) (σ : g_St) (a : g_St) (h : m_X6_fail x1 x2 σ = some a) : Met l yX6_fail wsX6_fail rm_m_X6_fail (g_Pc E n T [.ref (E.2.1 + 2), .int x1, .int x2] σ) (g_Qv E n T a) 0 0 (g_A E) :=
  g_metV (by decide +kernel) rfl rfl (Nat.le_of_ble_eq_true rfl) (fun M Qf C q => by rw [← h]; exact w_m_X6_fail_0 C q hA x1 x2 σ)
def L_m_X6_takeFigure : List Nat := [2]
abbrev rm_m_X6_takeFigure : Room := { frames := 1, cells := 0, slots := 0, locals := 22 }
theorem f_X6_takeFigure_43 : g_Fld wsX6_takeFigure RX6 43 6 3 := ⟨RX6, TX6, 12, rfl, by decide +kernel, by decide, by decide +kernel⟩
theorem f_X6_takeFigure_68 : g_Fld wsX6_takeFigure RX6 68 6 4 := ⟨RX6, TX6, 12, rfl, by decide +kernel, by decide, by decide +kernel⟩
theorem f_X6_takeFigure_71 : g_Fld wsX6_takeFigure RX6 71 6 5 := ⟨RX6, TX6, 12, rfl, by decide +kernel, by decide, by decide +kernel⟩
theorem f_X6_takeFigure_74 : g_Fld wsX6_takeFigure RX6 74 6 6 := ⟨RX6, TX6, 12, rfl, by decide +kernel, by decide, by decide +kernel⟩
theorem p_X6_takeFigure_71 : g_FldP wsX6_takeFigure RX6 71 6 5 .int := ⟨RX6, TX6, 12, tyX6, rfl, by decide +kernel, by decide, by decide +kernel, tyX6_ok, nmX6, rfl, by decide +kernel⟩
theorem p_X6_takeFigure_74 : g_FldP wsX6_takeFigure RX6 74 6 6 .int := ⟨RX6, TX6, 12, tyX6, rfl, by decide +kernel, by decide, by decide +kernel, tyX6_ok, nmX6, rfl, by decide +kernel⟩
theorem p_X6_takeFigure_77 : g_FldP wsX6_takeFigure RX6 77 6 7 .int := ⟨RX6, TX6, 12, tyX6, rfl, by decide +kernel, by decide, by decide +kernel, tyX6_ok, nmX6, rfl, by decide +kernel⟩
set_option maxHeartbeats 4000000 in
set_option maxRecDepth 100000 in
theorem w_m_X6_takeFigure_38 {X : g_X (g_St)} (C : g_C X cX6_takeFigure RX6 wsX6_takeFigure rm_m_X6_takeFigure 3) (q : g_qV X) (hA : g_ag L_m_X6_takeFigure (g_n X) (g_T X)) (x1 : Int32) (σ : g_St) : G X 38 [(0, .ref (g_b X + 2)), (1, .int x1)] [] σ (m_X6_takeFigure_38 x1 σ) := by
  have t2 := g_ag_at hA (c := 2) rfl tc2
  unfold m_X6_takeFigure_38
  refine G_aload_n C dX6_takeFigure_38 rfl 0 rfl ?_
  refine G_dup C dX6_takeFigure_39 rfl ?_
  refine G_getI C f_X6_takeFigure_71 t2 rfl dX6_takeFigure_40 ?_
  refine G_iconst C dX6_takeFigure_43 (v := 1) (by decide +kernel) ?_
  refine G_iadd C dX6_takeFigure_44 ?_
  refine G_putI C p_X6_takeFigure_71 t2 rfl rfl rfl dX6_takeFigure_45 ?_
  refine G_lts (fun σ1 => ?_)
  refine G_aload_n C dX6_takeFigure_48 rfl 0 rfl ?_
  refine G_getI C f_X6_takeFigure_71 t2 rfl dX6_takeFigure_49 ?_
  refine G_iconst C dX6_takeFigure_52 (v := 3) (by decide +kernel) ?_
  refine G_icmp_gt C dX6_takeFigure_53 (tgt := 69) (by decide) (fun c2 => ?_) (fun c2 => ?_)
  · exact G_vret C q dX6_takeFigure_69
  · refine G_aload_n C dX6_takeFigure_56 rfl 0 rfl ?_
    refine G_aload_n C dX6_takeFigure_57 rfl 0 rfl ?_
    refine G_getI C f_X6_takeFigure_74 t2 rfl dX6_takeFigure_58 ?_
    refine G_bipush C dX6_takeFigure_61 (v := 10) (by decide +kernel) ?_
    refine G_imul C dX6_takeFigure_63 ?_
    refine G_iload_n C dX6_takeFigure_64 rfl 1 rfl ?_
    refine G_iadd C dX6_takeFigure_65 ?_
    refine G_putI C p_X6_takeFigure_74 t2 rfl rfl rfl dX6_takeFigure_66 ?_
    refine G_lts (fun σ3 => ?_)
    exact G_vret C q dX6_takeFigure_69
set_option maxHeartbeats 4000000 in
set_option maxRecDepth 100000 in
theorem w_m_X6_takeFigure_0 {X : g_X (g_St)} (C : g_C X cX6_takeFigure RX6 wsX6_takeFigure rm_m_X6_takeFigure 3) (q : g_qV X) (hA : g_ag L_m_X6_takeFigure (g_n X) (g_T X)) (x1 : Int32) (x2 : Int32) (σ : g_St) : G X 0 [(0, .ref (g_b X + 2)), (1, .int x1), (2, .int x2)] [] σ (m_X6_takeFigure x1 x2 σ) := by
  have t2 := g_ag_at hA (c := 2) rfl tc2
  unfold m_X6_takeFigure
  refine G_aload_n C dX6_takeFigure_0 rfl 0 rfl ?_
  refine G_getI C f_X6_takeFigure_71 t2 rfl dX6_takeFigure_1 ?_
  refine G_if_ne C dX6_takeFigure_4 (tgt := 38) (by decide) (fun c1 => ?_) (fun c1 => ?_)
  · refine G_aload_n C dX6_takeFigure_7 rfl 0 rfl ?_
    refine G_getI C f_X6_takeFigure_68 t2 rfl dX6_takeFigure_8 ?_
    refine G_aload_n C dX6_takeFigure_11 rfl 0 rfl ?_
    refine G_getI C f_X6_takeFigure_43 t2 rfl dX6_takeFigure_12 ?_
    refine G_callI (rest := [.int (σ.1 2 4)]) (fun a ha => g_runS C (nargs := 1) (As := [.int (σ.1 2 3)]) (rest := [.int (σ.1 2 4)]) gX6_takeFigure_X6_numbersOf rfl (by decide +kernel) rfl rfl rfl dX6_takeFigure_15 (k_m_X6_numbersOf X.1.2.1 X.2.1 (g_n X) (g_T X) (g_ag_sub hA (by decide +kernel)) (σ.1 2 3) σ a ha)) (fun q2 => ?_)
    refine G_icmp_lt C dX6_takeFigure_18 (tgt := 28) (by decide) (fun c3 => ?_) (fun c3 => ?_)
    · refine G_aload_n C dX6_takeFigure_28 rfl 0 rfl ?_
      refine G_iload_n C dX6_takeFigure_29 rfl 2 rfl ?_
      refine G_putI C p_X6_takeFigure_77 t2 rfl rfl rfl dX6_takeFigure_30 ?_
      refine G_lts (fun σ4 => ?_)
      refine G_aload_n C dX6_takeFigure_33 rfl 0 rfl ?_
      refine G_iconst C dX6_takeFigure_34 (v := 0) (by decide +kernel) ?_
      refine G_putI C p_X6_takeFigure_74 t2 rfl rfl rfl dX6_takeFigure_35 ?_
      refine G_lts (fun σ5 => ?_)
      exact G_sub (w_m_X6_takeFigure_38 C q hA x1 σ5) [0, 1] rfl
    · refine G_aload_n C dX6_takeFigure_21 rfl 0 rfl ?_
      refine G_iconst C dX6_takeFigure_22 (v := 1) (by decide +kernel) ?_
      refine G_iload_n C dX6_takeFigure_23 rfl 2 rfl ?_
      refine G_callV (rest := []) (fun a ha => g_runV C (nargs := 2) (As := [.int (1 : Int32), .int x2]) (rest := []) gX6_takeFigure_X6_fail rfl (by decide +kernel) rfl t2 rfl rfl rfl rfl dX6_takeFigure_24 (k_m_X6_fail X.1.2.1 X.2.1 (g_n X) (g_T X) (g_ag_sub hA (by decide +kernel)) (1 : Int32) x2 q2.2 a ha)) (fun σ6 => ?_)
      exact G_vret C q dX6_takeFigure_27
  · exact G_sub (w_m_X6_takeFigure_38 C q hA x1 σ) [0, 1] rfl
theorem k_m_X6_takeFigure (l : Launch) (E : g_E) (n : Nat) (T : Nat → g_Sh) (hA : g_ag L_m_X6_takeFigure n T) (x1 : Int32) (x2 : Int32) (σ : g_St) (a : g_St) (h : m_X6_takeFigure x1 x2 σ = some a) : Met l yX6_takeFigure wsX6_takeFigure rm_m_X6_takeFigure (g_Pc E n T [.ref (E.2.1 + 2), .int x1, .int x2] σ) (g_Qv E n T a) 0 0 (g_A E) :=
  g_metV (by decide +kernel) rfl rfl (Nat.le_of_ble_eq_true rfl) (fun M Qf C q => by rw [← h]; exact w_m_X6_takeFigure_0 C q hA x1 x2 σ)
def L_m_X6_least : List Nat := [2]
abbrev rm_m_X6_least : Room := { frames := 0, cells := 0, slots := 0, locals := 0 }
theorem f_X6_least_43 : g_Fld wsX6_least RX6 43 6 3 := ⟨RX6, TX6, 12, rfl, by decide +kernel, by decide, by decide +kernel⟩
theorem f_X6_least_68 : g_Fld wsX6_least RX6 68 6 4 := ⟨RX6, TX6, 12, rfl, by decide +kernel, by decide, by decide +kernel⟩
set_option maxHeartbeats 4000000 in
set_option maxRecDepth 100000 in
theorem w_m_X6_least_38 {X : g_X (Int32 × g_St)} (C : g_C X cX6_least RX6 wsX6_least rm_m_X6_least 2) (q : g_qI X) (hA : g_ag L_m_X6_least (g_n X) (g_T X)) (s0 : Int32) (σ : g_St) : G X 38 [] [.int s0] σ (m_X6_least_38 s0 σ) := by
  unfold m_X6_least_38
  refine G_istore_n C dX6_least_38 rfl rfl (lv' := [(1, .int s0)]) rfl ?_
  refine G_iload_n C dX6_least_39 rfl 0 rfl ?_
  refine G_if_eq C dX6_least_40 (tgt := 47) (by decide) (fun c1 => ?_) (fun c1 => ?_)
  · refine G_iconst C dX6_least_47 (v := 0) (by decide +kernel) ?_
    exact G_iret C q dX6_least_48
  · refine G_iconst C dX6_least_43 (v := 1) (by decide +kernel) ?_
    refine G_goto C dX6_least_44 (tgt := 48) (by decide) ?_
    exact G_iret C q dX6_least_48
set_option maxHeartbeats 4000000 in
set_option maxRecDepth 100000 in
theorem w_m_X6_least_37 {X : g_X (Int32 × g_St)} (C : g_C X cX6_least RX6 wsX6_least rm_m_X6_least 2) (q : g_qI X) (hA : g_ag L_m_X6_least (g_n X) (g_T X)) (σ : g_St) : G X 37 [] [] σ (m_X6_least_37 σ) := by
  unfold m_X6_least_37
  refine G_iconst C dX6_least_37 (v := 0) (by decide +kernel) ?_
  exact w_m_X6_least_38 C q hA (0 : Int32) σ
set_option maxHeartbeats 4000000 in
set_option maxRecDepth 100000 in
theorem w_m_X6_least_33 {X : g_X (Int32 × g_St)} (C : g_C X cX6_least RX6 wsX6_least rm_m_X6_least 2) (q : g_qI X) (hA : g_ag L_m_X6_least (g_n X) (g_T X)) (σ : g_St) : G X 33 [] [] σ (m_X6_least_33 σ) := by
  unfold m_X6_least_33
  refine G_iconst C dX6_least_33 (v := 1) (by decide +kernel) ?_
  refine G_goto C dX6_least_34 (tgt := 38) (by decide) ?_
  exact w_m_X6_least_38 C q hA (1 : Int32) σ
set_option maxHeartbeats 4000000 in
set_option maxRecDepth 100000 in
theorem w_m_X6_least_17 {X : g_X (Int32 × g_St)} (C : g_C X cX6_least RX6 wsX6_least rm_m_X6_least 2) (q : g_qI X) (hA : g_ag L_m_X6_least (g_n X) (g_T X)) (σ : g_St) : G X 17 [(0, .ref (g_b X + 2))] [] σ (m_X6_least_17 σ) := by
  have t2 := g_ag_at hA (c := 2) rfl tc2
  unfold m_X6_least_17
  refine G_aload_n C dX6_least_17 rfl 0 rfl ?_
  refine G_getI C f_X6_least_43 t2 rfl dX6_least_18 ?_
  refine G_bipush C dX6_least_21 (v := 121) (by decide +kernel) ?_
  refine G_icmp_ne C dX6_least_23 (tgt := 37) (by decide) (fun c1 => ?_) (fun c1 => ?_)
  · refine G_aload_n C dX6_least_26 rfl 0 rfl ?_
    refine G_getI C f_X6_least_68 t2 rfl dX6_least_27 ?_
    refine G_if_ne C dX6_least_30 (tgt := 37) (by decide) (fun c2 => ?_) (fun c2 => ?_)
    · exact G_sub (w_m_X6_least_33 C q hA σ) [] rfl
    · exact G_sub (w_m_X6_least_37 C q hA σ) [] rfl
  · exact G_sub (w_m_X6_least_37 C q hA σ) [] rfl
set_option maxHeartbeats 4000000 in
set_option maxRecDepth 100000 in
theorem w_m_X6_least_0 {X : g_X (Int32 × g_St)} (C : g_C X cX6_least RX6 wsX6_least rm_m_X6_least 2) (q : g_qI X) (hA : g_ag L_m_X6_least (g_n X) (g_T X)) (σ : g_St) : G X 0 [(0, .ref (g_b X + 2))] [] σ (m_X6_least σ) := by
  have t2 := g_ag_at hA (c := 2) rfl tc2
  unfold m_X6_least
  refine G_aload_n C dX6_least_0 rfl 0 rfl ?_
  refine G_getI C f_X6_least_43 t2 rfl dX6_least_1 ?_
  refine G_bipush C dX6_least_4 (v := 116) (by decide +kernel) ?_
  refine G_icmp_ne C dX6_least_6 (tgt := 17) (by decide) (fun c1 => ?_) (fun c1 => ?_)
  · refine G_aload_n C dX6_least_9 rfl 0 rfl ?_
    refine G_getI C f_X6_least_68 t2 rfl dX6_least_10 ?_
    refine G_iconst C dX6_least_13 (v := 1) (by decide +kernel) ?_
    refine G_icmp_eq C dX6_least_14 (tgt := 33) (by decide) (fun c2 => ?_) (fun c2 => ?_)
    · exact G_sub (w_m_X6_least_33 C q hA σ) [] rfl
    · exact w_m_X6_least_17 C q hA σ
  · exact w_m_X6_least_17 C q hA σ
theorem k_m_X6_least (l : Launch) (E : g_E) (n : Nat) (T : Nat → g_Sh) (hA : g_ag L_m_X6_least n T) (σ : g_St) (a : Int32 × g_St) (h : m_X6_least σ = some a) : Met l yX6_least wsX6_least rm_m_X6_least (g_Pc E n T [.ref (E.2.1 + 2)] σ) (g_Qi E n T a) 0 0 (g_A E) :=
  g_metI (by decide +kernel) rfl rfl (Nat.le_of_ble_eq_true rfl) (fun M Qf C q => by rw [← h]; exact w_m_X6_least_0 C q hA σ)
def L_m_X6_greatest : List Nat := [2, 3]
abbrev rm_m_X6_greatest : Room := { frames := 0, cells := 0, slots := 0, locals := 0 }
theorem f_X6_greatest_110 : g_Fld wsX6_greatest RX6 110 7 2 := ⟨RX7, TX7, 6, rfl, by decide +kernel, by decide, by decide +kernel⟩
theorem f_X6_greatest_12 : g_Fld wsX6_greatest RX6 12 6 0 := ⟨RX6, TX6, 12, rfl, by decide +kernel, by decide, by decide +kernel⟩
theorem f_X6_greatest_43 : g_Fld wsX6_greatest RX6 43 6 3 := ⟨RX6, TX6, 12, rfl, by decide +kernel, by decide, by decide +kernel⟩
theorem f_X6_greatest_68 : g_Fld wsX6_greatest RX6 68 6 4 := ⟨RX6, TX6, 12, rfl, by decide +kernel, by decide, by decide +kernel⟩
set_option maxHeartbeats 4000000 in
set_option maxRecDepth 100000 in
theorem w_m_X6_greatest_71 {X : g_X (Int32 × g_St)} (C : g_C X cX6_greatest RX6 wsX6_greatest rm_m_X6_greatest 1) (q : g_qI X) (hA : g_ag L_m_X6_greatest (g_n X) (g_T X)) (σ : g_St) : G X 71 [(0, .ref (g_b X + 2))] [] σ (m_X6_greatest_71 σ) := by
  have t2 := g_ag_at hA (c := 2) rfl tc2
  unfold m_X6_greatest_71
  refine G_aload_n C dX6_greatest_71 rfl 0 rfl ?_
  refine G_getI C f_X6_greatest_43 t2 rfl dX6_greatest_72 ?_
  refine G_bipush C dX6_greatest_75 (v := 121) (by decide +kernel) ?_
  refine G_icmp_ne C dX6_greatest_77 (tgt := 94) (by decide) (fun c1 => ?_) (fun c1 => ?_)
  · refine G_aload_n C dX6_greatest_80 rfl 0 rfl ?_
    refine G_getI C f_X6_greatest_68 t2 rfl dX6_greatest_81 ?_
    refine G_if_ne C dX6_greatest_84 (tgt := 92) (by decide) (fun c2 => ?_) (fun c2 => ?_)
    · refine G_bipush C dX6_greatest_87 (v := 8) (by decide +kernel) ?_
      refine G_goto C dX6_greatest_89 (tgt := 93) (by decide) ?_
      exact G_iret C q dX6_greatest_93
    · refine G_iconst C dX6_greatest_92 (v := 1) (by decide +kernel) ?_
      exact G_iret C q dX6_greatest_93
  · refine G_bipush C dX6_greatest_94 (v := 99) (by decide +kernel) ?_
    exact G_iret C q dX6_greatest_96
set_option maxHeartbeats 4000000 in
set_option maxRecDepth 100000 in
theorem w_m_X6_greatest_51 {X : g_X (Int32 × g_St)} (C : g_C X cX6_greatest RX6 wsX6_greatest rm_m_X6_greatest 1) (q : g_qI X) (hA : g_ag L_m_X6_greatest (g_n X) (g_T X)) (σ : g_St) : G X 51 [(0, .ref (g_b X + 2))] [] σ (m_X6_greatest_51 σ) := by
  have t2 := g_ag_at hA (c := 2) rfl tc2
  unfold m_X6_greatest_51
  refine G_aload_n C dX6_greatest_51 rfl 0 rfl ?_
  refine G_getI C f_X6_greatest_43 t2 rfl dX6_greatest_52 ?_
  refine G_bipush C dX6_greatest_55 (v := 116) (by decide +kernel) ?_
  refine G_icmp_ne C dX6_greatest_57 (tgt := 71) (by decide) (fun c1 => ?_) (fun c1 => ?_)
  · refine G_aload_n C dX6_greatest_60 rfl 0 rfl ?_
    refine G_getI C f_X6_greatest_68 t2 rfl dX6_greatest_61 ?_
    refine G_iconst C dX6_greatest_64 (v := 1) (by decide +kernel) ?_
    refine G_icmp_ne C dX6_greatest_65 (tgt := 71) (by decide) (fun c2 => ?_) (fun c2 => ?_)
    · refine G_bipush C dX6_greatest_68 (v := 9) (by decide +kernel) ?_
      exact G_iret C q dX6_greatest_70
    · exact w_m_X6_greatest_71 C q hA σ
  · exact w_m_X6_greatest_71 C q hA σ
set_option maxHeartbeats 4000000 in
set_option maxRecDepth 100000 in
theorem w_m_X6_greatest_0 {X : g_X (Int32 × g_St)} (C : g_C X cX6_greatest RX6 wsX6_greatest rm_m_X6_greatest 1) (q : g_qI X) (hA : g_ag L_m_X6_greatest (g_n X) (g_T X)) (σ : g_St) : G X 0 [(0, .ref (g_b X + 2))] [] σ (m_X6_greatest σ) := by
  have t2 := g_ag_at hA (c := 2) rfl tc2
  have t3 := g_ag_at hA (c := 3) rfl tc3
  unfold m_X6_greatest
  refine G_aload_n C dX6_greatest_0 rfl 0 rfl ?_
  refine G_getI C f_X6_greatest_43 t2 rfl dX6_greatest_1 ?_
  refine G_bipush C dX6_greatest_4 (v := 112) (by decide +kernel) ?_
  refine G_icmp_ne C dX6_greatest_6 (tgt := 25) (by decide) (fun c1 => ?_) (fun c1 => ?_)
  · refine G_aload_n C dX6_greatest_9 rfl 0 rfl ?_
    refine G_getI C f_X6_greatest_68 t2 rfl dX6_greatest_10 ?_
    refine G_if_ne C dX6_greatest_13 (tgt := 21) (by decide) (fun c4 => ?_) (fun c4 => ?_)
    · refine G_bipush C dX6_greatest_16 (v := 99) (by decide +kernel) ?_
      refine G_goto C dX6_greatest_18 (tgt := 24) (by decide) ?_
      exact G_iret C q dX6_greatest_24
    · refine G_sipush C dX6_greatest_21 (v := 999) (by decide +kernel) ?_
      exact G_iret C q dX6_greatest_24
  · refine G_aload_n C dX6_greatest_25 rfl 0 rfl ?_
    refine G_getI C f_X6_greatest_43 t2 rfl dX6_greatest_26 ?_
    refine G_bipush C dX6_greatest_29 (v := 116) (by decide +kernel) ?_
    refine G_icmp_ne C dX6_greatest_31 (tgt := 51) (by decide) (fun c2 => ?_) (fun c2 => ?_)
    · refine G_aload_n C dX6_greatest_34 rfl 0 rfl ?_
      refine G_getI C f_X6_greatest_68 t2 rfl dX6_greatest_35 ?_
      refine G_if_ne C dX6_greatest_38 (tgt := 51) (by decide) (fun c3 => ?_) (fun c3 => ?_)
      · refine G_aload_n C dX6_greatest_41 rfl 0 rfl ?_
        refine G_getR C f_X6_greatest_12 t2 rfl dX6_greatest_42 ?_
        refine G_getI C f_X6_greatest_110 t3 rfl dX6_greatest_45 ?_
        refine G_iconst C dX6_greatest_48 (v := 1) (by decide +kernel) ?_
        refine G_isub C dX6_greatest_49 ?_
        exact G_iret C q dX6_greatest_50
      · exact w_m_X6_greatest_51 C q hA σ
    · exact w_m_X6_greatest_51 C q hA σ
theorem k_m_X6_greatest (l : Launch) (E : g_E) (n : Nat) (T : Nat → g_Sh) (hA : g_ag L_m_X6_greatest n T) (σ : g_St) (a : Int32 × g_St) (h : m_X6_greatest σ = some a) : Met l yX6_greatest wsX6_greatest rm_m_X6_greatest (g_Pc E n T [.ref (E.2.1 + 2)] σ) (g_Qi E n T a) 0 0 (g_A E) :=
  g_metI (by decide +kernel) rfl rfl (Nat.le_of_ble_eq_true rfl) (fun M Qf C q => by rw [← h]; exact w_m_X6_greatest_0 C q hA σ)
def L_m_X6_closeNumber : List Nat := [2, 3, 12]
abbrev rm_m_X6_closeNumber : Room := { frames := 1, cells := 0, slots := 0, locals := 22 }
theorem f_X6_closeNumber_25 : g_Fld wsX6_closeNumber RX6 25 6 2 := ⟨RX6, TX6, 12, rfl, by decide +kernel, by decide, by decide +kernel⟩
theorem f_X6_closeNumber_68 : g_Fld wsX6_closeNumber RX6 68 6 4 := ⟨RX6, TX6, 12, rfl, by decide +kernel, by decide, by decide +kernel⟩
theorem f_X6_closeNumber_71 : g_Fld wsX6_closeNumber RX6 71 6 5 := ⟨RX6, TX6, 12, rfl, by decide +kernel, by decide, by decide +kernel⟩
theorem f_X6_closeNumber_74 : g_Fld wsX6_closeNumber RX6 74 6 6 := ⟨RX6, TX6, 12, rfl, by decide +kernel, by decide, by decide +kernel⟩
theorem f_X6_closeNumber_77 : g_Fld wsX6_closeNumber RX6 77 6 7 := ⟨RX6, TX6, 12, rfl, by decide +kernel, by decide, by decide +kernel⟩
theorem p_X6_closeNumber_68 : g_FldP wsX6_closeNumber RX6 68 6 4 .int := ⟨RX6, TX6, 12, tyX6, rfl, by decide +kernel, by decide, by decide +kernel, tyX6_ok, nmX6, rfl, by decide +kernel⟩
theorem p_X6_closeNumber_71 : g_FldP wsX6_closeNumber RX6 71 6 5 .int := ⟨RX6, TX6, 12, tyX6, rfl, by decide +kernel, by decide, by decide +kernel, tyX6_ok, nmX6, rfl, by decide +kernel⟩
set_option maxHeartbeats 4000000 in
set_option maxRecDepth 100000 in
theorem w_m_X6_closeNumber_61 {X : g_X (g_St)} (C : g_C X cX6_closeNumber RX6 wsX6_closeNumber rm_m_X6_closeNumber 2) (q : g_qV X) (hA : g_ag L_m_X6_closeNumber (g_n X) (g_T X)) (σ : g_St) : G X 61 [(0, .ref (g_b X + 2))] [] σ (m_X6_closeNumber_61 σ) := by
  have t2 := g_ag_at hA (c := 2) rfl tc2
  unfold m_X6_closeNumber_61
  refine G_aload_n C dX6_closeNumber_61 rfl 0 rfl ?_
  refine G_iconst C dX6_closeNumber_62 (v := 2) (by decide +kernel) ?_
  refine G_aload_n C dX6_closeNumber_63 rfl 0 rfl ?_
  refine G_getI C f_X6_closeNumber_77 t2 rfl dX6_closeNumber_64 ?_
  refine G_callV (rest := []) (fun a ha => g_runV C (nargs := 2) (As := [.int (2 : Int32), .int (σ.1 2 7)]) (rest := []) gX6_closeNumber_X6_fail rfl (by decide +kernel) rfl t2 rfl rfl rfl rfl dX6_closeNumber_67 (k_m_X6_fail X.1.2.1 X.2.1 (g_n X) (g_T X) (g_ag_sub hA (by decide +kernel)) (2 : Int32) (σ.1 2 7) σ a ha)) (fun σ1 => ?_)
  exact G_vret C q dX6_closeNumber_70
set_option maxHeartbeats 4000000 in
set_option maxRecDepth 100000 in
theorem w_m_X6_closeNumber_43 {X : g_X (g_St)} (C : g_C X cX6_closeNumber RX6 wsX6_closeNumber rm_m_X6_closeNumber 2) (q : g_qV X) (hA : g_ag L_m_X6_closeNumber (g_n X) (g_T X)) (s0 : Int32) (σ : g_St) : G X 43 [(0, .ref (g_b X + 2))] [.int s0] σ (m_X6_closeNumber_43 s0 σ) := by
  have t2 := g_ag_at hA (c := 2) rfl tc2
  have t12 := g_ag_at hA (c := 12) rfl tc12
  unfold m_X6_closeNumber_43
  refine G_istore_n C dX6_closeNumber_43 rfl rfl (lv' := [(1, .int s0), (0, .ref (g_b X + 2))]) rfl ?_
  refine G_aload_n C dX6_closeNumber_44 rfl 1 rfl ?_
  refine G_iconst C dX6_closeNumber_45 (v := 0) (by decide +kernel) ?_
  refine G_putI C p_X6_closeNumber_71 t2 rfl rfl rfl dX6_closeNumber_46 ?_
  refine G_lts (fun σ1 => ?_)
  refine G_iload_n C dX6_closeNumber_49 rfl 0 rfl ?_
  refine G_if_eq C dX6_closeNumber_50 (tgt := 61) (by decide) (fun c2 => ?_) (fun c2 => ?_)
  · exact G_sub (w_m_X6_closeNumber_61 C q hA σ1) [1] rfl
  · refine G_aload_n C dX6_closeNumber_53 rfl 1 rfl ?_
    refine G_getI C f_X6_closeNumber_68 t2 rfl dX6_closeNumber_54 ?_
    refine G_iconst C dX6_closeNumber_57 (v := 4) (by decide +kernel) ?_
    refine G_icmp_lt C dX6_closeNumber_58 (tgt := 71) (by decide) (fun c3 => ?_) (fun c3 => ?_)
    · refine G_aload_n C dX6_closeNumber_71 rfl 1 rfl ?_
      refine G_getR C f_X6_closeNumber_25 t2 rfl dX6_closeNumber_72 ?_
      refine G_aload_n C dX6_closeNumber_75 rfl 1 rfl ?_
      refine G_getI C f_X6_closeNumber_68 t2 rfl dX6_closeNumber_76 ?_
      refine G_aload_n C dX6_closeNumber_79 rfl 1 rfl ?_
      refine G_getI C f_X6_closeNumber_74 t2 rfl dX6_closeNumber_80 ?_
      refine G_chk (fun h4 => ?_)
      refine G_ast C t12 h4 dX6_closeNumber_83 ?_
      refine G_lts (fun σ5 => ?_)
      refine G_aload_n C dX6_closeNumber_84 rfl 1 rfl ?_
      refine G_dup C dX6_closeNumber_85 rfl ?_
      refine G_getI C f_X6_closeNumber_68 t2 rfl dX6_closeNumber_86 ?_
      refine G_iconst C dX6_closeNumber_89 (v := 1) (by decide +kernel) ?_
      refine G_iadd C dX6_closeNumber_90 ?_
      refine G_putI C p_X6_closeNumber_68 t2 rfl rfl rfl dX6_closeNumber_91 ?_
      refine G_lts (fun σ6 => ?_)
      exact G_vret C q dX6_closeNumber_94
    · exact G_sub (w_m_X6_closeNumber_61 C q hA σ1) [1] rfl
set_option maxHeartbeats 4000000 in
set_option maxRecDepth 100000 in
theorem w_m_X6_closeNumber_42 {X : g_X (g_St)} (C : g_C X cX6_closeNumber RX6 wsX6_closeNumber rm_m_X6_closeNumber 2) (q : g_qV X) (hA : g_ag L_m_X6_closeNumber (g_n X) (g_T X)) (σ : g_St) : G X 42 [(0, .ref (g_b X + 2))] [] σ (m_X6_closeNumber_42 σ) := by
  unfold m_X6_closeNumber_42
  refine G_iconst C dX6_closeNumber_42 (v := 0) (by decide +kernel) ?_
  exact w_m_X6_closeNumber_43 C q hA (0 : Int32) σ
set_option maxHeartbeats 4000000 in
set_option maxRecDepth 100000 in
theorem w_m_X6_closeNumber_0 {X : g_X (g_St)} (C : g_C X cX6_closeNumber RX6 wsX6_closeNumber rm_m_X6_closeNumber 2) (q : g_qV X) (hA : g_ag L_m_X6_closeNumber (g_n X) (g_T X)) (σ : g_St) : G X 0 [(0, .ref (g_b X + 2))] [] σ (m_X6_closeNumber σ) := by
  have t2 := g_ag_at hA (c := 2) rfl tc2
  unfold m_X6_closeNumber
  refine G_aload_n C dX6_closeNumber_0 rfl 0 rfl ?_
  refine G_getI C f_X6_closeNumber_71 t2 rfl dX6_closeNumber_1 ?_
  refine G_if_ne C dX6_closeNumber_4 (tgt := 8) (by decide) (fun c1 => ?_) (fun c1 => ?_)
  · exact G_vret C q dX6_closeNumber_7
  · refine G_aload_n C dX6_closeNumber_8 rfl 0 rfl ?_
    refine G_getI C f_X6_closeNumber_71 t2 rfl dX6_closeNumber_9 ?_
    refine G_iconst C dX6_closeNumber_12 (v := 3) (by decide +kernel) ?_
    refine G_icmp_gt C dX6_closeNumber_13 (tgt := 42) (by decide) (fun c2 => ?_) (fun c2 => ?_)
    · exact w_m_X6_closeNumber_42 C q hA σ
    · refine G_aload_n C dX6_closeNumber_16 rfl 0 rfl ?_
      refine G_getI C f_X6_closeNumber_74 t2 rfl dX6_closeNumber_17 ?_
      refine G_aload_n C dX6_closeNumber_20 rfl 0 rfl ?_
      refine G_callI (rest := [.int (σ.1 2 6)]) (fun a ha => g_runV C (nargs := 0) (As := []) (rest := [.int (σ.1 2 6)]) gX6_closeNumber_X6_least rfl (by decide +kernel) rfl t2 rfl rfl rfl rfl dX6_closeNumber_21 (k_m_X6_least X.1.2.1 X.2.1 (g_n X) (g_T X) (g_ag_sub hA (by decide +kernel)) σ a ha)) (fun q3 => ?_)
      refine G_icmp_lt C dX6_closeNumber_24 (tgt := 42) (by decide) (fun c4 => ?_) (fun c4 => ?_)
      · exact w_m_X6_closeNumber_42 C q hA q3.2
      · refine G_aload_n C dX6_closeNumber_27 rfl 0 rfl ?_
        refine G_getI C f_X6_closeNumber_74 t2 rfl dX6_closeNumber_28 ?_
        refine G_aload_n C dX6_closeNumber_31 rfl 0 rfl ?_
        refine G_callI (rest := [.int (q3.2.1 2 6)]) (fun a ha => g_runV C (nargs := 0) (As := []) (rest := [.int (q3.2.1 2 6)]) gX6_closeNumber_X6_greatest rfl (by decide +kernel) rfl t2 rfl rfl rfl rfl dX6_closeNumber_32 (k_m_X6_greatest X.1.2.1 X.2.1 (g_n X) (g_T X) (g_ag_sub hA (by decide +kernel)) q3.2 a ha)) (fun q5 => ?_)
        refine G_icmp_gt C dX6_closeNumber_35 (tgt := 42) (by decide) (fun c6 => ?_) (fun c6 => ?_)
        · exact w_m_X6_closeNumber_42 C q hA q5.2
        · refine G_iconst C dX6_closeNumber_38 (v := 1) (by decide +kernel) ?_
          refine G_goto C dX6_closeNumber_39 (tgt := 43) (by decide) ?_
          exact w_m_X6_closeNumber_43 C q hA (1 : Int32) q5.2
theorem k_m_X6_closeNumber (l : Launch) (E : g_E) (n : Nat) (T : Nat → g_Sh) (hA : g_ag L_m_X6_closeNumber n T) (σ : g_St) (a : g_St) (h : m_X6_closeNumber σ = some a) : Met l yX6_closeNumber wsX6_closeNumber rm_m_X6_closeNumber (g_Pc E n T [.ref (E.2.1 + 2)] σ) (g_Qv E n T a) 0 0 (g_A E) :=
  g_metV (by decide +kernel) rfl rfl (Nat.le_of_ble_eq_true rfl) (fun M Qf C q => by rw [← h]; exact w_m_X6_closeNumber_0 C q hA σ)
def L_m_X6_addPerson : List Nat := [2, 3, 6, 7, 8, 12]
abbrev rm_m_X6_addPerson : Room := { frames := 0, cells := 0, slots := 0, locals := 0 }
theorem f_X6_addPerson_110 : g_Fld wsX6_addPerson RX6 110 7 2 := ⟨RX7, TX7, 6, rfl, by decide +kernel, by decide, by decide +kernel⟩
theorem f_X6_addPerson_12 : g_Fld wsX6_addPerson RX6 12 6 0 := ⟨RX6, TX6, 12, rfl, by decide +kernel, by decide, by decide +kernel⟩
theorem f_X6_addPerson_132 : g_Fld wsX6_addPerson RX6 132 4 0 := ⟨RX4, TX4, 8, rfl, by decide +kernel, by decide, by decide +kernel⟩
theorem f_X6_addPerson_135 : g_Fld wsX6_addPerson RX6 135 4 1 := ⟨RX4, TX4, 8, rfl, by decide +kernel, by decide, by decide +kernel⟩
theorem f_X6_addPerson_21 : g_Fld wsX6_addPerson RX6 21 6 1 := ⟨RX6, TX6, 12, rfl, by decide +kernel, by decide, by decide +kernel⟩
theorem f_X6_addPerson_25 : g_Fld wsX6_addPerson RX6 25 6 2 := ⟨RX6, TX6, 12, rfl, by decide +kernel, by decide, by decide +kernel⟩
theorem p_X6_addPerson_110 : g_FldP wsX6_addPerson RX6 110 7 2 .int := ⟨RX7, TX7, 6, tyX7, rfl, by decide +kernel, by decide, by decide +kernel, tyX7_ok, nmX7, rfl, by decide +kernel⟩
set_option maxHeartbeats 4000000 in
set_option maxRecDepth 100000 in
theorem w_m_X6_addPerson_0 {X : g_X (g_St)} (C : g_C X cX6_addPerson RX6 wsX6_addPerson rm_m_X6_addPerson 1) (q : g_qV X) (hA : g_ag L_m_X6_addPerson (g_n X) (g_T X)) (σ : g_St) : G X 0 [(0, .ref (g_b X + 2))] [] σ (m_X6_addPerson σ) := by
  have t2 := g_ag_at hA (c := 2) rfl tc2
  have t3 := g_ag_at hA (c := 3) rfl tc3
  have t6 := g_ag_at hA (c := 6) rfl tc6
  have t7 := g_ag_at hA (c := 7) rfl tc7
  have t8 := g_ag_at hA (c := 8) rfl tc8
  have t12 := g_ag_at hA (c := 12) rfl tc12
  unfold m_X6_addPerson
  refine G_aload_n C dX6_addPerson_0 rfl 0 rfl ?_
  refine G_getR C f_X6_addPerson_12 t2 rfl dX6_addPerson_1 ?_
  refine G_getI C f_X6_addPerson_110 t3 rfl dX6_addPerson_4 ?_
  refine G_bipush C dX6_addPerson_7 (v := 6) (by decide +kernel) ?_
  refine G_icmp_lt C dX6_addPerson_9 (tgt := 13) (by decide) (fun c1 => ?_) (fun c1 => ?_)
  · refine G_aload_n C dX6_addPerson_13 rfl 0 rfl ?_
    refine G_getR C f_X6_addPerson_21 t2 rfl dX6_addPerson_14 ?_
    refine G_getR C f_X6_addPerson_132 t6 rfl dX6_addPerson_17 ?_
    refine G_aload_n C dX6_addPerson_20 rfl 0 rfl ?_
    refine G_getR C f_X6_addPerson_12 t2 rfl dX6_addPerson_21 ?_
    refine G_getI C f_X6_addPerson_110 t3 rfl dX6_addPerson_24 ?_
    refine G_aload_n C dX6_addPerson_27 rfl 0 rfl ?_
    refine G_getR C f_X6_addPerson_25 t2 rfl dX6_addPerson_28 ?_
    refine G_iconst C dX6_addPerson_31 (v := 0) (by decide +kernel) ?_
    refine G_aldk C t12 (by decide +kernel) (k := 0) rfl dX6_addPerson_32 ?_
    refine G_chk (fun h2 => ?_)
    refine G_ast C t7 h2 dX6_addPerson_33 ?_
    refine G_lts (fun σ3 => ?_)
    refine G_aload_n C dX6_addPerson_34 rfl 0 rfl ?_
    refine G_getR C f_X6_addPerson_21 t2 rfl dX6_addPerson_35 ?_
    refine G_getR C f_X6_addPerson_135 t6 rfl dX6_addPerson_38 ?_
    refine G_aload_n C dX6_addPerson_41 rfl 0 rfl ?_
    refine G_getR C f_X6_addPerson_12 t2 rfl dX6_addPerson_42 ?_
    refine G_getI C f_X6_addPerson_110 t3 rfl dX6_addPerson_45 ?_
    refine G_aload_n C dX6_addPerson_48 rfl 0 rfl ?_
    refine G_getR C f_X6_addPerson_25 t2 rfl dX6_addPerson_49 ?_
    refine G_iconst C dX6_addPerson_52 (v := 1) (by decide +kernel) ?_
    refine G_aldk C t12 (by decide +kernel) (k := 1) rfl dX6_addPerson_53 ?_
    refine G_chk (fun h4 => ?_)
    refine G_ast C t8 h4 dX6_addPerson_54 ?_
    refine G_lts (fun σ5 => ?_)
    refine G_aload_n C dX6_addPerson_55 rfl 0 rfl ?_
    refine G_getR C f_X6_addPerson_12 t2 rfl dX6_addPerson_56 ?_
    refine G_dup C dX6_addPerson_59 rfl ?_
    refine G_getI C f_X6_addPerson_110 t3 rfl dX6_addPerson_60 ?_
    refine G_iconst C dX6_addPerson_63 (v := 1) (by decide +kernel) ?_
    refine G_iadd C dX6_addPerson_64 ?_
    refine G_putI C p_X6_addPerson_110 t3 rfl rfl rfl dX6_addPerson_65 ?_
    refine G_lts (fun σ6 => ?_)
    exact G_vret C q dX6_addPerson_68
  · exact G_vret C q dX6_addPerson_12
theorem k_m_X6_addPerson (l : Launch) (E : g_E) (n : Nat) (T : Nat → g_Sh) (hA : g_ag L_m_X6_addPerson n T) (σ : g_St) (a : g_St) (h : m_X6_addPerson σ = some a) : Met l yX6_addPerson wsX6_addPerson rm_m_X6_addPerson (g_Pc E n T [.ref (E.2.1 + 2)] σ) (g_Qv E n T a) 0 0 (g_A E) :=
  g_metV (by decide +kernel) rfl rfl (Nat.le_of_ble_eq_true rfl) (fun M Qf C q => by rw [← h]; exact w_m_X6_addPerson_0 C q hA σ)
def L_m_X6_addTicket : List Nat := [2, 3, 4, 6, 9, 11, 12]
abbrev rm_m_X6_addTicket : Room := { frames := 0, cells := 0, slots := 0, locals := 0 }
theorem f_X6_addTicket_117 : g_Fld wsX6_addTicket RX6 117 7 3 := ⟨RX7, TX7, 6, rfl, by decide +kernel, by decide, by decide +kernel⟩
theorem f_X6_addTicket_12 : g_Fld wsX6_addTicket RX6 12 6 0 := ⟨RX6, TX6, 12, rfl, by decide +kernel, by decide, by decide +kernel⟩
theorem f_X6_addTicket_138 : g_Fld wsX6_addTicket RX6 138 4 2 := ⟨RX4, TX4, 8, rfl, by decide +kernel, by decide, by decide +kernel⟩
theorem f_X6_addTicket_141 : g_Fld wsX6_addTicket RX6 141 7 0 := ⟨RX7, TX7, 6, rfl, by decide +kernel, by decide, by decide +kernel⟩
theorem f_X6_addTicket_144 : g_Fld wsX6_addTicket RX6 144 4 4 := ⟨RX4, TX4, 8, rfl, by decide +kernel, by decide, by decide +kernel⟩
theorem f_X6_addTicket_21 : g_Fld wsX6_addTicket RX6 21 6 1 := ⟨RX6, TX6, 12, rfl, by decide +kernel, by decide, by decide +kernel⟩
theorem f_X6_addTicket_25 : g_Fld wsX6_addTicket RX6 25 6 2 := ⟨RX6, TX6, 12, rfl, by decide +kernel, by decide, by decide +kernel⟩
theorem p_X6_addTicket_117 : g_FldP wsX6_addTicket RX6 117 7 3 .int := ⟨RX7, TX7, 6, tyX7, rfl, by decide +kernel, by decide, by decide +kernel, tyX7_ok, nmX7, rfl, by decide +kernel⟩
set_option maxHeartbeats 4000000 in
set_option maxRecDepth 100000 in
theorem w_m_X6_addTicket_0 {X : g_X (g_St)} (C : g_C X cX6_addTicket RX6 wsX6_addTicket rm_m_X6_addTicket 1) (q : g_qV X) (hA : g_ag L_m_X6_addTicket (g_n X) (g_T X)) (σ : g_St) : G X 0 [(0, .ref (g_b X + 2))] [] σ (m_X6_addTicket σ) := by
  have t2 := g_ag_at hA (c := 2) rfl tc2
  have t3 := g_ag_at hA (c := 3) rfl tc3
  have t4 := g_ag_at hA (c := 4) rfl tc4
  have t6 := g_ag_at hA (c := 6) rfl tc6
  have t9 := g_ag_at hA (c := 9) rfl tc9
  have t11 := g_ag_at hA (c := 11) rfl tc11
  have t12 := g_ag_at hA (c := 12) rfl tc12
  unfold m_X6_addTicket
  refine G_aload_n C dX6_addTicket_0 rfl 0 rfl ?_
  refine G_getR C f_X6_addTicket_12 t2 rfl dX6_addTicket_1 ?_
  refine G_getI C f_X6_addTicket_117 t3 rfl dX6_addTicket_4 ?_
  refine G_bipush C dX6_addTicket_7 (v := 8) (by decide +kernel) ?_
  refine G_icmp_lt C dX6_addTicket_9 (tgt := 13) (by decide) (fun c1 => ?_) (fun c1 => ?_)
  · refine G_aload_n C dX6_addTicket_13 rfl 0 rfl ?_
    refine G_getR C f_X6_addTicket_21 t2 rfl dX6_addTicket_14 ?_
    refine G_getR C f_X6_addTicket_138 t6 rfl dX6_addTicket_17 ?_
    refine G_aload_n C dX6_addTicket_20 rfl 0 rfl ?_
    refine G_getR C f_X6_addTicket_12 t2 rfl dX6_addTicket_21 ?_
    refine G_getI C f_X6_addTicket_117 t3 rfl dX6_addTicket_24 ?_
    refine G_aload_n C dX6_addTicket_27 rfl 0 rfl ?_
    refine G_getR C f_X6_addTicket_25 t2 rfl dX6_addTicket_28 ?_
    refine G_iconst C dX6_addTicket_31 (v := 0) (by decide +kernel) ?_
    refine G_aldk C t12 (by decide +kernel) (k := 0) rfl dX6_addTicket_32 ?_
    refine G_chk (fun h2 => ?_)
    refine G_ast C t9 h2 dX6_addTicket_33 ?_
    refine G_lts (fun σ3 => ?_)
    refine G_aload_n C dX6_addTicket_34 rfl 0 rfl ?_
    refine G_getR C f_X6_addTicket_12 t2 rfl dX6_addTicket_35 ?_
    refine G_getR C f_X6_addTicket_141 t3 rfl dX6_addTicket_38 ?_
    refine G_aload_n C dX6_addTicket_41 rfl 0 rfl ?_
    refine G_getR C f_X6_addTicket_12 t2 rfl dX6_addTicket_42 ?_
    refine G_getI C f_X6_addTicket_117 t3 rfl dX6_addTicket_45 ?_
    refine G_aload_n C dX6_addTicket_48 rfl 0 rfl ?_
    refine G_getR C f_X6_addTicket_25 t2 rfl dX6_addTicket_49 ?_
    refine G_iconst C dX6_addTicket_52 (v := 1) (by decide +kernel) ?_
    refine G_aldk C t12 (by decide +kernel) (k := 1) rfl dX6_addTicket_53 ?_
    refine G_chk (fun h4 => ?_)
    refine G_ast C t4 h4 dX6_addTicket_54 ?_
    refine G_lts (fun σ5 => ?_)
    refine G_aload_n C dX6_addTicket_55 rfl 0 rfl ?_
    refine G_getR C f_X6_addTicket_21 t2 rfl dX6_addTicket_56 ?_
    refine G_getR C f_X6_addTicket_144 t6 rfl dX6_addTicket_59 ?_
    refine G_aload_n C dX6_addTicket_62 rfl 0 rfl ?_
    refine G_getR C f_X6_addTicket_12 t2 rfl dX6_addTicket_63 ?_
    refine G_getI C f_X6_addTicket_117 t3 rfl dX6_addTicket_66 ?_
    refine G_aload_n C dX6_addTicket_69 rfl 0 rfl ?_
    refine G_getR C f_X6_addTicket_25 t2 rfl dX6_addTicket_70 ?_
    refine G_iconst C dX6_addTicket_73 (v := 2) (by decide +kernel) ?_
    refine G_aldk C t12 (by decide +kernel) (k := 2) rfl dX6_addTicket_74 ?_
    refine G_chk (fun h6 => ?_)
    refine G_ast C t11 h6 dX6_addTicket_75 ?_
    refine G_lts (fun σ7 => ?_)
    refine G_aload_n C dX6_addTicket_76 rfl 0 rfl ?_
    refine G_getR C f_X6_addTicket_12 t2 rfl dX6_addTicket_77 ?_
    refine G_dup C dX6_addTicket_80 rfl ?_
    refine G_getI C f_X6_addTicket_117 t3 rfl dX6_addTicket_81 ?_
    refine G_iconst C dX6_addTicket_84 (v := 1) (by decide +kernel) ?_
    refine G_iadd C dX6_addTicket_85 ?_
    refine G_putI C p_X6_addTicket_117 t3 rfl rfl rfl dX6_addTicket_86 ?_
    refine G_lts (fun σ8 => ?_)
    exact G_vret C q dX6_addTicket_89
  · exact G_vret C q dX6_addTicket_12
theorem k_m_X6_addTicket (l : Launch) (E : g_E) (n : Nat) (T : Nat → g_Sh) (hA : g_ag L_m_X6_addTicket n T) (σ : g_St) (a : g_St) (h : m_X6_addTicket σ = some a) : Met l yX6_addTicket wsX6_addTicket rm_m_X6_addTicket (g_Pc E n T [.ref (E.2.1 + 2)] σ) (g_Qv E n T a) 0 0 (g_A E) :=
  g_metV (by decide +kernel) rfl rfl (Nat.le_of_ble_eq_true rfl) (fun M Qf C q => by rw [← h]; exact w_m_X6_addTicket_0 C q hA σ)
def L_m_X6_setYear : List Nat := [2, 3, 12]
abbrev rm_m_X6_setYear : Room := { frames := 0, cells := 0, slots := 0, locals := 0 }
theorem f_X6_setYear_12 : g_Fld wsX6_setYear RX6 12 6 0 := ⟨RX6, TX6, 12, rfl, by decide +kernel, by decide, by decide +kernel⟩
theorem f_X6_setYear_25 : g_Fld wsX6_setYear RX6 25 6 2 := ⟨RX6, TX6, 12, rfl, by decide +kernel, by decide, by decide +kernel⟩
theorem p_X6_setYear_147 : g_FldP wsX6_setYear RX6 147 7 4 .int := ⟨RX7, TX7, 6, tyX7, rfl, by decide +kernel, by decide, by decide +kernel, tyX7_ok, nmX7, rfl, by decide +kernel⟩
theorem p_X6_setYear_150 : g_FldP wsX6_setYear RX6 150 7 5 .boolean := ⟨RX7, TX7, 6, tyX7, rfl, by decide +kernel, by decide, by decide +kernel, tyX7_ok, nmX7, rfl, by decide +kernel⟩
theorem p_X6_setYear_80 : g_FldP wsX6_setYear RX6 80 6 8 .boolean := ⟨RX6, TX6, 12, tyX6, rfl, by decide +kernel, by decide, by decide +kernel, tyX6_ok, nmX6, rfl, by decide +kernel⟩
set_option maxHeartbeats 4000000 in
set_option maxRecDepth 100000 in
theorem w_m_X6_setYear_32 {X : g_X (g_St)} (C : g_C X cX6_setYear RX6 wsX6_setYear rm_m_X6_setYear 1) (q : g_qV X) (hA : g_ag L_m_X6_setYear (g_n X) (g_T X)) (s1 : Int32) (σ : g_St) : G X 32 [(0, .ref (g_b X + 2))] [.int s1, .ref (g_b X + 3)] σ (m_X6_setYear_32 s1 σ) := by
  have t2 := g_ag_at hA (c := 2) rfl tc2
  have t3 := g_ag_at hA (c := 3) rfl tc3
  unfold m_X6_setYear_32
  refine G_chk (fun h1 => ?_)
  refine G_putI C p_X6_setYear_150 t3 rfl (g_nz h1) (g_fz h1) dX6_setYear_32 ?_
  refine G_lts (fun σ2 => ?_)
  refine G_aload_n C dX6_setYear_35 rfl 0 rfl ?_
  refine G_iconst C dX6_setYear_36 (v := 1) (by decide +kernel) ?_
  refine G_putI C p_X6_setYear_80 t2 rfl (g_nz (by decide)) (g_fz (by decide)) dX6_setYear_37 ?_
  refine G_lts (fun σ3 => ?_)
  exact G_vret C q dX6_setYear_40
set_option maxHeartbeats 4000000 in
set_option maxRecDepth 100000 in
theorem w_m_X6_setYear_0 {X : g_X (g_St)} (C : g_C X cX6_setYear RX6 wsX6_setYear rm_m_X6_setYear 1) (q : g_qV X) (hA : g_ag L_m_X6_setYear (g_n X) (g_T X)) (σ : g_St) : G X 0 [(0, .ref (g_b X + 2))] [] σ (m_X6_setYear σ) := by
  have t2 := g_ag_at hA (c := 2) rfl tc2
  have t3 := g_ag_at hA (c := 3) rfl tc3
  have t12 := g_ag_at hA (c := 12) rfl tc12
  unfold m_X6_setYear
  refine G_aload_n C dX6_setYear_0 rfl 0 rfl ?_
  refine G_getR C f_X6_setYear_12 t2 rfl dX6_setYear_1 ?_
  refine G_aload_n C dX6_setYear_4 rfl 0 rfl ?_
  refine G_getR C f_X6_setYear_25 t2 rfl dX6_setYear_5 ?_
  refine G_iconst C dX6_setYear_8 (v := 0) (by decide +kernel) ?_
  refine G_aldk C t12 (by decide +kernel) (k := 0) rfl dX6_setYear_9 ?_
  refine G_putI C p_X6_setYear_147 t3 rfl rfl rfl dX6_setYear_10 ?_
  refine G_lts (fun σ1 => ?_)
  refine G_aload_n C dX6_setYear_13 rfl 0 rfl ?_
  refine G_getR C f_X6_setYear_12 t2 rfl dX6_setYear_14 ?_
  refine G_aload_n C dX6_setYear_17 rfl 0 rfl ?_
  refine G_getR C f_X6_setYear_25 t2 rfl dX6_setYear_18 ?_
  refine G_iconst C dX6_setYear_21 (v := 1) (by decide +kernel) ?_
  refine G_aldk C t12 (by decide +kernel) (k := 1) rfl dX6_setYear_22 ?_
  refine G_iconst C dX6_setYear_23 (v := 1) (by decide +kernel) ?_
  refine G_icmp_ne C dX6_setYear_24 (tgt := 31) (by decide) (fun c2 => ?_) (fun c2 => ?_)
  · refine G_iconst C dX6_setYear_27 (v := 1) (by decide +kernel) ?_
    refine G_goto C dX6_setYear_28 (tgt := 32) (by decide) ?_
    exact w_m_X6_setYear_32 C q hA (1 : Int32) σ1
  · refine G_iconst C dX6_setYear_31 (v := 0) (by decide +kernel) ?_
    exact w_m_X6_setYear_32 C q hA (0 : Int32) σ1
theorem k_m_X6_setYear (l : Launch) (E : g_E) (n : Nat) (T : Nat → g_Sh) (hA : g_ag L_m_X6_setYear n T) (σ : g_St) (a : g_St) (h : m_X6_setYear σ = some a) : Met l yX6_setYear wsX6_setYear rm_m_X6_setYear (g_Pc E n T [.ref (E.2.1 + 2)] σ) (g_Qv E n T a) 0 0 (g_A E) :=
  g_metV (by decide +kernel) rfl rfl (Nat.le_of_ble_eq_true rfl) (fun M Qf C q => by rw [← h]; exact w_m_X6_setYear_0 C q hA σ)
def L_m_X6_setRights : List Nat := [2, 3, 5, 12]
abbrev rm_m_X6_setRights : Room := { frames := 1, cells := 0, slots := 0, locals := 60 }
theorem f_X6_setRights_12 : g_Fld wsX6_setRights RX6 12 6 0 := ⟨RX6, TX6, 12, rfl, by decide +kernel, by decide, by decide +kernel⟩
theorem f_X6_setRights_153 : g_Fld wsX6_setRights RX6 153 7 1 := ⟨RX7, TX7, 6, rfl, by decide +kernel, by decide, by decide +kernel⟩
theorem f_X6_setRights_25 : g_Fld wsX6_setRights RX6 25 6 2 := ⟨RX6, TX6, 12, rfl, by decide +kernel, by decide, by decide +kernel⟩
theorem p_X6_setRights_84 : g_FldP wsX6_setRights RX6 84 6 9 .boolean := ⟨RX6, TX6, 12, tyX6, rfl, by decide +kernel, by decide, by decide +kernel, tyX6_ok, nmX6, rfl, by decide +kernel⟩
theorem w_X6_setRights_156 : g_cw wsX6_setRights RX6 156 := ⟨by decide +kernel, by decide +kernel, by decide +kernel, by decide +kernel⟩
set_option maxHeartbeats 4000000 in
set_option maxRecDepth 100000 in
theorem w_m_X6_setRights_0 {X : g_X (g_St)} (C : g_C X cX6_setRights RX6 wsX6_setRights rm_m_X6_setRights 1) (q : g_qV X) (hA : g_ag L_m_X6_setRights (g_n X) (g_T X)) (σ : g_St) : G X 0 [(0, .ref (g_b X + 2))] [] σ (m_X6_setRights σ) := by
  have t2 := g_ag_at hA (c := 2) rfl tc2
  have t3 := g_ag_at hA (c := 3) rfl tc3
  have t5 := g_ag_at hA (c := 5) rfl tc5
  have t12 := g_ag_at hA (c := 12) rfl tc12
  unfold m_X6_setRights
  refine G_aload_n C dX6_setRights_0 rfl 0 rfl ?_
  refine G_getR C f_X6_setRights_25 t2 rfl dX6_setRights_1 ?_
  refine G_iconst C dX6_setRights_4 (v := 0) (by decide +kernel) ?_
  refine G_aload_n C dX6_setRights_5 rfl 0 rfl ?_
  refine G_getR C f_X6_setRights_12 t2 rfl dX6_setRights_6 ?_
  refine G_getR C f_X6_setRights_153 t3 rfl dX6_setRights_9 ?_
  refine G_iconst C dX6_setRights_12 (v := 0) (by decide +kernel) ?_
  refine G_iconst C dX6_setRights_13 (v := 4) (by decide +kernel) ?_
  refine G_copyk C w_X6_setRights_156 rfl t12 t5 (by decide +kernel) (ks := 0) (kd := 0) (kn := 4) rfl rfl rfl dX6_setRights_14 ?_
  refine G_lts (fun σ1 => ?_)
  refine G_aload_n C dX6_setRights_17 rfl 0 rfl ?_
  refine G_iconst C dX6_setRights_18 (v := 1) (by decide +kernel) ?_
  refine G_putI C p_X6_setRights_84 t2 rfl (g_nz (by decide)) (g_fz (by decide)) dX6_setRights_19 ?_
  refine G_lts (fun σ2 => ?_)
  exact G_vret C q dX6_setRights_22
theorem k_m_X6_setRights (l : Launch) (E : g_E) (n : Nat) (T : Nat → g_Sh) (hA : g_ag L_m_X6_setRights n T) (σ : g_St) (a : g_St) (h : m_X6_setRights σ = some a) : Met l yX6_setRights wsX6_setRights rm_m_X6_setRights (g_Pc E n T [.ref (E.2.1 + 2)] σ) (g_Qv E n T a) 0 0 (g_A E) :=
  g_metV (by decide +kernel) rfl rfl (Nat.le_of_ble_eq_true rfl) (fun M Qf C q => by rw [← h]; exact w_m_X6_setRights_0 C q hA σ)
def L_m_X6_closeClause : List Nat := [2, 3, 4, 5, 6, 7, 8, 9, 11, 12]
abbrev rm_m_X6_closeClause : Room := { frames := 2, cells := 0, slots := 0, locals := 80 }
theorem f_X6_closeClause_43 : g_Fld wsX6_closeClause RX6 43 6 3 := ⟨RX6, TX6, 12, rfl, by decide +kernel, by decide, by decide +kernel⟩
theorem f_X6_closeClause_68 : g_Fld wsX6_closeClause RX6 68 6 4 := ⟨RX6, TX6, 12, rfl, by decide +kernel, by decide, by decide +kernel⟩
theorem p_X6_closeClause_43 : g_FldP wsX6_closeClause RX6 43 6 3 .int := ⟨RX6, TX6, 12, tyX6, rfl, by decide +kernel, by decide, by decide +kernel, tyX6_ok, nmX6, rfl, by decide +kernel⟩
theorem p_X6_closeClause_68 : g_FldP wsX6_closeClause RX6 68 6 4 .int := ⟨RX6, TX6, 12, tyX6, rfl, by decide +kernel, by decide, by decide +kernel, tyX6_ok, nmX6, rfl, by decide +kernel⟩
set_option maxHeartbeats 4000000 in
set_option maxRecDepth 100000 in
theorem w_m_X6_closeClause_21 {X : g_X (g_St)} (C : g_C X cX6_closeClause RX6 wsX6_closeClause rm_m_X6_closeClause 2) (q : g_qV X) (hA : g_ag L_m_X6_closeClause (g_n X) (g_T X)) (x1 : Int32) (σ : g_St) : G X 21 [(0, .ref (g_b X + 2)), (1, .int x1)] [] σ (m_X6_closeClause_21 x1 σ) := by
  have t2 := g_ag_at hA (c := 2) rfl tc2
  unfold m_X6_closeClause_21
  refine G_aload_n C dX6_closeClause_21 rfl 0 rfl ?_
  refine G_iconst C dX6_closeClause_22 (v := 1) (by decide +kernel) ?_
  refine G_iload_n C dX6_closeClause_23 rfl 1 rfl ?_
  refine G_callV (rest := []) (fun a ha => g_runV C (nargs := 2) (As := [.int (1 : Int32), .int x1]) (rest := []) gX6_closeClause_X6_fail rfl (by decide +kernel) rfl t2 rfl rfl rfl rfl dX6_closeClause_24 (k_m_X6_fail X.1.2.1 X.2.1 (g_n X) (g_T X) (g_ag_sub hA (by decide +kernel)) (1 : Int32) x1 σ a ha)) (fun σ1 => ?_)
  exact G_vret C q dX6_closeClause_27
set_option maxHeartbeats 4000000 in
set_option maxRecDepth 100000 in
theorem w_m_X6_closeClause_80 {X : g_X (g_St)} (C : g_C X cX6_closeClause RX6 wsX6_closeClause rm_m_X6_closeClause 2) (q : g_qV X) (hA : g_ag L_m_X6_closeClause (g_n X) (g_T X)) (σ : g_St) : G X 80 [(0, .ref (g_b X + 2))] [] σ (m_X6_closeClause_80 σ) := by
  have t2 := g_ag_at hA (c := 2) rfl tc2
  unfold m_X6_closeClause_80
  refine G_aload_n C dX6_closeClause_80 rfl 0 rfl ?_
  refine G_iconst C dX6_closeClause_81 (v := 0) (by decide +kernel) ?_
  refine G_putI C p_X6_closeClause_43 t2 rfl rfl rfl dX6_closeClause_82 ?_
  refine G_lts (fun σ1 => ?_)
  refine G_aload_n C dX6_closeClause_85 rfl 0 rfl ?_
  refine G_iconst C dX6_closeClause_86 (v := 0) (by decide +kernel) ?_
  refine G_putI C p_X6_closeClause_68 t2 rfl rfl rfl dX6_closeClause_87 ?_
  refine G_lts (fun σ2 => ?_)
  exact G_vret C q dX6_closeClause_90
set_option maxHeartbeats 4000000 in
set_option maxRecDepth 100000 in
theorem w_m_X6_closeClause_0 {X : g_X (g_St)} (C : g_C X cX6_closeClause RX6 wsX6_closeClause rm_m_X6_closeClause 2) (q : g_qV X) (hA : g_ag L_m_X6_closeClause (g_n X) (g_T X)) (x1 : Int32) (σ : g_St) : G X 0 [(0, .ref (g_b X + 2)), (1, .int x1)] [] σ (m_X6_closeClause x1 σ) := by
  have t2 := g_ag_at hA (c := 2) rfl tc2
  unfold m_X6_closeClause
  refine G_aload_n C dX6_closeClause_0 rfl 0 rfl ?_
  refine G_getI C f_X6_closeClause_43 t2 rfl dX6_closeClause_1 ?_
  refine G_if_eq C dX6_closeClause_4 (tgt := 21) (by decide) (fun c1 => ?_) (fun c1 => ?_)
  · exact w_m_X6_closeClause_21 C q hA x1 σ
  · refine G_aload_n C dX6_closeClause_7 rfl 0 rfl ?_
    refine G_getI C f_X6_closeClause_68 t2 rfl dX6_closeClause_8 ?_
    refine G_aload_n C dX6_closeClause_11 rfl 0 rfl ?_
    refine G_getI C f_X6_closeClause_43 t2 rfl dX6_closeClause_12 ?_
    refine G_callI (rest := [.int (σ.1 2 4)]) (fun a ha => g_runS C (nargs := 1) (As := [.int (σ.1 2 3)]) (rest := [.int (σ.1 2 4)]) gX6_closeClause_X6_numbersOf rfl (by decide +kernel) rfl rfl rfl dX6_closeClause_15 (k_m_X6_numbersOf X.1.2.1 X.2.1 (g_n X) (g_T X) (g_ag_sub hA (by decide +kernel)) (σ.1 2 3) σ a ha)) (fun q2 => ?_)
    refine G_icmp_ge C dX6_closeClause_18 (tgt := 28) (by decide) (fun c3 => ?_) (fun c3 => ?_)
    · refine G_aload_n C dX6_closeClause_28 rfl 0 rfl ?_
      refine G_getI C f_X6_closeClause_43 t2 rfl dX6_closeClause_29 ?_
      refine G_bipush C dX6_closeClause_32 (v := 112) (by decide +kernel) ?_
      refine G_icmp_ne C dX6_closeClause_34 (tgt := 44) (by decide) (fun c4 => ?_) (fun c4 => ?_)
      · refine G_aload_n C dX6_closeClause_37 rfl 0 rfl ?_
        refine G_callV (rest := []) (fun a ha => g_runV C (nargs := 0) (As := []) (rest := []) gX6_closeClause_X6_addPerson rfl (by decide +kernel) rfl t2 rfl rfl rfl rfl dX6_closeClause_38 (k_m_X6_addPerson X.1.2.1 X.2.1 (g_n X) (g_T X) (g_ag_sub hA (by decide +kernel)) q2.2 a ha)) (fun σ10 => ?_)
        refine G_goto C dX6_closeClause_41 (tgt := 80) (by decide) ?_
        exact G_sub (w_m_X6_closeClause_80 C q hA σ10) [0] rfl
      · refine G_aload_n C dX6_closeClause_44 rfl 0 rfl ?_
        refine G_getI C f_X6_closeClause_43 t2 rfl dX6_closeClause_45 ?_
        refine G_bipush C dX6_closeClause_48 (v := 116) (by decide +kernel) ?_
        refine G_icmp_ne C dX6_closeClause_50 (tgt := 60) (by decide) (fun c5 => ?_) (fun c5 => ?_)
        · refine G_aload_n C dX6_closeClause_53 rfl 0 rfl ?_
          refine G_callV (rest := []) (fun a ha => g_runV C (nargs := 0) (As := []) (rest := []) gX6_closeClause_X6_addTicket rfl (by decide +kernel) rfl t2 rfl rfl rfl rfl dX6_closeClause_54 (k_m_X6_addTicket X.1.2.1 X.2.1 (g_n X) (g_T X) (g_ag_sub hA (by decide +kernel)) q2.2 a ha)) (fun σ9 => ?_)
          refine G_goto C dX6_closeClause_57 (tgt := 80) (by decide) ?_
          exact G_sub (w_m_X6_closeClause_80 C q hA σ9) [0] rfl
        · refine G_aload_n C dX6_closeClause_60 rfl 0 rfl ?_
          refine G_getI C f_X6_closeClause_43 t2 rfl dX6_closeClause_61 ?_
          refine G_bipush C dX6_closeClause_64 (v := 121) (by decide +kernel) ?_
          refine G_icmp_ne C dX6_closeClause_66 (tgt := 76) (by decide) (fun c6 => ?_) (fun c6 => ?_)
          · refine G_aload_n C dX6_closeClause_69 rfl 0 rfl ?_
            refine G_callV (rest := []) (fun a ha => g_runV C (nargs := 0) (As := []) (rest := []) gX6_closeClause_X6_setYear rfl (by decide +kernel) rfl t2 rfl rfl rfl rfl dX6_closeClause_70 (k_m_X6_setYear X.1.2.1 X.2.1 (g_n X) (g_T X) (g_ag_sub hA (by decide +kernel)) q2.2 a ha)) (fun σ8 => ?_)
            refine G_goto C dX6_closeClause_73 (tgt := 80) (by decide) ?_
            exact G_sub (w_m_X6_closeClause_80 C q hA σ8) [0] rfl
          · refine G_aload_n C dX6_closeClause_76 rfl 0 rfl ?_
            refine G_callV (rest := []) (fun a ha => g_runV C (nargs := 0) (As := []) (rest := []) gX6_closeClause_X6_setRights rfl (by decide +kernel) rfl t2 rfl rfl rfl rfl dX6_closeClause_77 (k_m_X6_setRights X.1.2.1 X.2.1 (g_n X) (g_T X) (g_ag_sub hA (by decide +kernel)) q2.2 a ha)) (fun σ7 => ?_)
            exact G_sub (w_m_X6_closeClause_80 C q hA σ7) [0] rfl
    · exact w_m_X6_closeClause_21 C q hA x1 q2.2
theorem k_m_X6_closeClause (l : Launch) (E : g_E) (n : Nat) (T : Nat → g_Sh) (hA : g_ag L_m_X6_closeClause n T) (x1 : Int32) (σ : g_St) (a : g_St) (h : m_X6_closeClause x1 σ = some a) : Met l yX6_closeClause wsX6_closeClause rm_m_X6_closeClause (g_Pc E n T [.ref (E.2.1 + 2), .int x1] σ) (g_Qv E n T a) 0 0 (g_A E) :=
  g_metV (by decide +kernel) rfl rfl (Nat.le_of_ble_eq_true rfl) (fun M Qf C q => by rw [← h]; exact w_m_X6_closeClause_0 C q hA x1 σ)
def L_m_X6_isOneTooMany : List Nat := [2, 3]
abbrev rm_m_X6_isOneTooMany : Room := { frames := 0, cells := 0, slots := 0, locals := 0 }
theorem f_X6_isOneTooMany_110 : g_Fld wsX6_isOneTooMany RX6 110 7 2 := ⟨RX7, TX7, 6, rfl, by decide +kernel, by decide, by decide +kernel⟩
theorem f_X6_isOneTooMany_117 : g_Fld wsX6_isOneTooMany RX6 117 7 3 := ⟨RX7, TX7, 6, rfl, by decide +kernel, by decide, by decide +kernel⟩
theorem f_X6_isOneTooMany_12 : g_Fld wsX6_isOneTooMany RX6 12 6 0 := ⟨RX6, TX6, 12, rfl, by decide +kernel, by decide, by decide +kernel⟩
theorem f_X6_isOneTooMany_80 : g_Fld wsX6_isOneTooMany RX6 80 6 8 := ⟨RX6, TX6, 12, rfl, by decide +kernel, by decide, by decide +kernel⟩
theorem f_X6_isOneTooMany_84 : g_Fld wsX6_isOneTooMany RX6 84 6 9 := ⟨RX6, TX6, 12, rfl, by decide +kernel, by decide, by decide +kernel⟩
set_option maxHeartbeats 4000000 in
set_option maxRecDepth 100000 in
theorem w_m_X6_isOneTooMany_0 {X : g_X (Int32 × g_St)} (C : g_C X cX6_isOneTooMany RX6 wsX6_isOneTooMany rm_m_X6_isOneTooMany 2) (q : g_qZ X) (hA : g_ag L_m_X6_isOneTooMany (g_n X) (g_T X)) (x1 : Int32) (σ : g_St) : G X 0 [(0, .ref (g_b X + 2)), (1, .int x1)] [] σ (m_X6_isOneTooMany x1 σ) := by
  have t2 := g_ag_at hA (c := 2) rfl tc2
  have t3 := g_ag_at hA (c := 3) rfl tc3
  unfold m_X6_isOneTooMany
  refine G_iload_n C dX6_isOneTooMany_0 rfl 1 rfl ?_
  refine G_ite (fun e1 => ?_) (fun e1 => ?_)
  · refine G_ls C dX6_isOneTooMany_1 (by decide +kernel) (off := 35) (by rw [e1]; decide +kernel) (tgt := 36) (by decide) ?_
    refine G_aload_n C dX6_isOneTooMany_36 rfl 0 rfl ?_
    refine G_getR C f_X6_isOneTooMany_12 t2 rfl dX6_isOneTooMany_37 ?_
    refine G_getI C f_X6_isOneTooMany_110 t3 rfl dX6_isOneTooMany_40 ?_
    refine G_bipush C dX6_isOneTooMany_43 (v := 6) (by decide +kernel) ?_
    refine G_icmp_lt C dX6_isOneTooMany_45 (tgt := 52) (by decide) (fun c2 => ?_) (fun c2 => ?_)
    · refine G_iconst C dX6_isOneTooMany_52 (v := 0) (by decide +kernel) ?_
      exact G_zret C q (by decide) dX6_isOneTooMany_53
    · refine G_iconst C dX6_isOneTooMany_48 (v := 1) (by decide +kernel) ?_
      refine G_goto C dX6_isOneTooMany_49 (tgt := 53) (by decide) ?_
      exact G_zret C q (by decide) dX6_isOneTooMany_53
  · refine G_ite (fun e3 => ?_) (fun e3 => ?_)
    · refine G_ls C dX6_isOneTooMany_1 (by decide +kernel) (off := 53) (by rw [e3]; decide +kernel) (tgt := 54) (by decide) ?_
      refine G_aload_n C dX6_isOneTooMany_54 rfl 0 rfl ?_
      refine G_getR C f_X6_isOneTooMany_12 t2 rfl dX6_isOneTooMany_55 ?_
      refine G_getI C f_X6_isOneTooMany_117 t3 rfl dX6_isOneTooMany_58 ?_
      refine G_bipush C dX6_isOneTooMany_61 (v := 8) (by decide +kernel) ?_
      refine G_icmp_lt C dX6_isOneTooMany_63 (tgt := 70) (by decide) (fun c4 => ?_) (fun c4 => ?_)
      · refine G_iconst C dX6_isOneTooMany_70 (v := 0) (by decide +kernel) ?_
        exact G_zret C q (by decide) dX6_isOneTooMany_71
      · refine G_iconst C dX6_isOneTooMany_66 (v := 1) (by decide +kernel) ?_
        refine G_goto C dX6_isOneTooMany_67 (tgt := 71) (by decide) ?_
        exact G_zret C q (by decide) dX6_isOneTooMany_71
    · refine G_ite (fun e5 => ?_) (fun e5 => ?_)
      · refine G_ls C dX6_isOneTooMany_1 (by decide +kernel) (off := 71) (by rw [e5]; decide +kernel) (tgt := 72) (by decide) ?_
        refine G_aload_n C dX6_isOneTooMany_72 rfl 0 rfl ?_
        refine G_getI C f_X6_isOneTooMany_80 t2 rfl dX6_isOneTooMany_73 ?_
        refine G_chk (fun h6 => ?_)
        exact G_zret C q h6 dX6_isOneTooMany_76
      · refine G_ls C dX6_isOneTooMany_1 (by decide +kernel) (off := 76) (by show Op.lookupswitch.offset [(112, 35), (116, 53), (121, 71)] 76 _ = _; rw [lv_osw e1 (by decide +kernel), lv_osw e3 (by decide +kernel), lv_osw e5 (by decide +kernel)]; rfl) (tgt := 77) (by decide) ?_
        refine G_aload_n C dX6_isOneTooMany_77 rfl 0 rfl ?_
        refine G_getI C f_X6_isOneTooMany_84 t2 rfl dX6_isOneTooMany_78 ?_
        refine G_chk (fun h7 => ?_)
        exact G_zret C q h7 dX6_isOneTooMany_81
theorem k_m_X6_isOneTooMany (l : Launch) (E : g_E) (n : Nat) (T : Nat → g_Sh) (hA : g_ag L_m_X6_isOneTooMany n T) (x1 : Int32) (σ : g_St) (a : Int32 × g_St) (h : m_X6_isOneTooMany x1 σ = some a) : Met l yX6_isOneTooMany wsX6_isOneTooMany rm_m_X6_isOneTooMany (g_Pc E n T [.ref (E.2.1 + 2), .int x1] σ) (g_Qi E n T a) 0 0 (g_A E) :=
  g_metZ (by decide +kernel) rfl rfl (Nat.le_of_ble_eq_true rfl) (fun M Qf C q => by rw [← h]; exact w_m_X6_isOneTooMany_0 C q hA x1 σ)
def L_m_X6_openClause : List Nat := [2, 3]
abbrev rm_m_X6_openClause : Room := { frames := 1, cells := 0, slots := 0, locals := 22 }
theorem f_X6_openClause_43 : g_Fld wsX6_openClause RX6 43 6 3 := ⟨RX6, TX6, 12, rfl, by decide +kernel, by decide, by decide +kernel⟩
theorem p_X6_openClause_43 : g_FldP wsX6_openClause RX6 43 6 3 .int := ⟨RX6, TX6, 12, tyX6, rfl, by decide +kernel, by decide, by decide +kernel, tyX6_ok, nmX6, rfl, by decide +kernel⟩
theorem p_X6_openClause_68 : g_FldP wsX6_openClause RX6 68 6 4 .int := ⟨RX6, TX6, 12, tyX6, rfl, by decide +kernel, by decide, by decide +kernel, tyX6_ok, nmX6, rfl, by decide +kernel⟩
set_option maxHeartbeats 4000000 in
set_option maxRecDepth 100000 in
theorem w_m_X6_openClause_14 {X : g_X (g_St)} (C : g_C X cX6_openClause RX6 wsX6_openClause rm_m_X6_openClause 3) (q : g_qV X) (hA : g_ag L_m_X6_openClause (g_n X) (g_T X)) (x2 : Int32) (σ : g_St) : G X 14 [(0, .ref (g_b X + 2)), (2, .int x2)] [] σ (m_X6_openClause_14 x2 σ) := by
  have t2 := g_ag_at hA (c := 2) rfl tc2
  unfold m_X6_openClause_14
  refine G_aload_n C dX6_openClause_14 rfl 0 rfl ?_
  refine G_iconst C dX6_openClause_15 (v := 1) (by decide +kernel) ?_
  refine G_iload_n C dX6_openClause_16 rfl 1 rfl ?_
  refine G_callV (rest := []) (fun a ha => g_runV C (nargs := 2) (As := [.int (1 : Int32), .int x2]) (rest := []) gX6_openClause_X6_fail rfl (by decide +kernel) rfl t2 rfl rfl rfl rfl dX6_openClause_17 (k_m_X6_fail X.1.2.1 X.2.1 (g_n X) (g_T X) (g_ag_sub hA (by decide +kernel)) (1 : Int32) x2 σ a ha)) (fun σ1 => ?_)
  refine G_goto C dX6_openClause_20 (tgt := 50) (by decide) ?_
  exact G_vret C q dX6_openClause_50
set_option maxHeartbeats 4000000 in
set_option maxRecDepth 100000 in
theorem w_m_X6_openClause_0 {X : g_X (g_St)} (C : g_C X cX6_openClause RX6 wsX6_openClause rm_m_X6_openClause 3) (q : g_qV X) (hA : g_ag L_m_X6_openClause (g_n X) (g_T X)) (x1 : Int32) (x2 : Int32) (σ : g_St) : G X 0 [(0, .ref (g_b X + 2)), (1, .int x1), (2, .int x2)] [] σ (m_X6_openClause x1 x2 σ) := by
  have t2 := g_ag_at hA (c := 2) rfl tc2
  unfold m_X6_openClause
  refine G_aload_n C dX6_openClause_0 rfl 0 rfl ?_
  refine G_getI C f_X6_openClause_43 t2 rfl dX6_openClause_1 ?_
  refine G_if_ne C dX6_openClause_4 (tgt := 14) (by decide) (fun c1 => ?_) (fun c1 => ?_)
  · refine G_iload_n C dX6_openClause_7 rfl 1 rfl ?_
    refine G_callI (rest := []) (fun a ha => g_runS C (nargs := 1) (As := [.int x1]) (rest := []) gX6_openClause_X6_numbersOf rfl (by decide +kernel) rfl rfl rfl dX6_openClause_8 (k_m_X6_numbersOf X.1.2.1 X.2.1 (g_n X) (g_T X) (g_ag_sub hA (by decide +kernel)) x1 σ a ha)) (fun q2 => ?_)
    refine G_if_ne C dX6_openClause_11 (tgt := 23) (by decide) (fun c3 => ?_) (fun c3 => ?_)
    · exact G_sub (w_m_X6_openClause_14 C q hA x2 q2.2) [0, 2] rfl
    · refine G_aload_n C dX6_openClause_23 rfl 0 rfl ?_
      refine G_iload_n C dX6_openClause_24 rfl 1 rfl ?_
      refine G_callI (rest := []) (fun a ha => g_runV C (nargs := 1) (As := [.int x1]) (rest := []) gX6_openClause_X6_isOneTooMany rfl (by decide +kernel) rfl t2 rfl rfl rfl rfl dX6_openClause_25 (k_m_X6_isOneTooMany X.1.2.1 X.2.1 (g_n X) (g_T X) (g_ag_sub hA (by decide +kernel)) x1 q2.2 a ha)) (fun q4 => ?_)
      refine G_if_eq C dX6_openClause_28 (tgt := 40) (by decide) (fun c5 => ?_) (fun c5 => ?_)
      · refine G_aload_n C dX6_openClause_40 rfl 0 rfl ?_
        refine G_iload_n C dX6_openClause_41 rfl 1 rfl ?_
        refine G_putI C p_X6_openClause_43 t2 rfl rfl rfl dX6_openClause_42 ?_
        refine G_lts (fun σ6 => ?_)
        refine G_aload_n C dX6_openClause_45 rfl 0 rfl ?_
        refine G_iconst C dX6_openClause_46 (v := 0) (by decide +kernel) ?_
        refine G_putI C p_X6_openClause_68 t2 rfl rfl rfl dX6_openClause_47 ?_
        refine G_lts (fun σ7 => ?_)
        exact G_vret C q dX6_openClause_50
      · refine G_aload_n C dX6_openClause_31 rfl 0 rfl ?_
        refine G_iconst C dX6_openClause_32 (v := 3) (by decide +kernel) ?_
        refine G_iload_n C dX6_openClause_33 rfl 2 rfl ?_
        refine G_callV (rest := []) (fun a ha => g_runV C (nargs := 2) (As := [.int (3 : Int32), .int x2]) (rest := []) gX6_openClause_X6_fail rfl (by decide +kernel) rfl t2 rfl rfl rfl rfl dX6_openClause_34 (k_m_X6_fail X.1.2.1 X.2.1 (g_n X) (g_T X) (g_ag_sub hA (by decide +kernel)) (3 : Int32) x2 q4.2 a ha)) (fun σ8 => ?_)
        refine G_goto C dX6_openClause_37 (tgt := 50) (by decide) ?_
        exact G_vret C q dX6_openClause_50
  · exact G_sub (w_m_X6_openClause_14 C q hA x2 σ) [0, 2] rfl
theorem k_m_X6_openClause (l : Launch) (E : g_E) (n : Nat) (T : Nat → g_Sh) (hA : g_ag L_m_X6_openClause n T) (x1 : Int32) (x2 : Int32) (σ : g_St) (a : g_St) (h : m_X6_openClause x1 x2 σ = some a) : Met l yX6_openClause wsX6_openClause rm_m_X6_openClause (g_Pc E n T [.ref (E.2.1 + 2), .int x1, .int x2] σ) (g_Qv E n T a) 0 0 (g_A E) :=
  g_metV (by decide +kernel) rfl rfl (Nat.le_of_ble_eq_true rfl) (fun M Qf C q => by rw [← h]; exact w_m_X6_openClause_0 C q hA x1 x2 σ)
def L_m_X6_takeLetter : List Nat := [2, 3, 4, 5, 6, 7, 8, 9, 11, 12]
abbrev rm_m_X6_takeLetter : Room := { frames := 3, cells := 0, slots := 0, locals := 101 }
theorem f_X6_takeLetter_32 : g_Fld wsX6_takeLetter RX6 32 6 10 := ⟨RX6, TX6, 12, rfl, by decide +kernel, by decide, by decide +kernel⟩
set_option maxHeartbeats 4000000 in
set_option maxRecDepth 100000 in
theorem w_m_X6_takeLetter_22 {X : g_X (g_St)} (C : g_C X cX6_takeLetter RX6 wsX6_takeLetter rm_m_X6_takeLetter 3) (q : g_qV X) (hA : g_ag L_m_X6_takeLetter (g_n X) (g_T X)) (x1 : Int32) (x2 : Int32) (σ : g_St) : G X 22 [(0, .ref (g_b X + 2)), (1, .int x1), (2, .int x2)] [] σ (m_X6_takeLetter_22 x1 x2 σ) := by
  have t2 := g_ag_at hA (c := 2) rfl tc2
  unfold m_X6_takeLetter_22
  refine G_aload_n C dX6_takeLetter_22 rfl 0 rfl ?_
  refine G_callV (rest := []) (fun a ha => g_runV C (nargs := 0) (As := []) (rest := []) gX6_takeLetter_X6_closeNumber rfl (by decide +kernel) rfl t2 rfl rfl rfl rfl dX6_takeLetter_23 (k_m_X6_closeNumber X.1.2.1 X.2.1 (g_n X) (g_T X) (g_ag_sub hA (by decide +kernel)) σ a ha)) (fun σ1 => ?_)
  refine G_aload_n C dX6_takeLetter_26 rfl 0 rfl ?_
  refine G_getI C f_X6_takeLetter_32 t2 rfl dX6_takeLetter_27 ?_
  refine G_if_ne C dX6_takeLetter_30 (tgt := 39) (by decide) (fun c2 => ?_) (fun c2 => ?_)
  · refine G_iload_n C dX6_takeLetter_33 rfl 1 rfl ?_
    refine G_bipush C dX6_takeLetter_34 (v := 32) (by decide +kernel) ?_
    refine G_icmp_ne C dX6_takeLetter_36 (tgt := 40) (by decide) (fun c3 => ?_) (fun c3 => ?_)
    · exact G_vret C q dX6_takeLetter_39
    · refine G_iload_n C dX6_takeLetter_40 rfl 1 rfl ?_
      refine G_bipush C dX6_takeLetter_41 (v := 59) (by decide +kernel) ?_
      refine G_icmp_ne C dX6_takeLetter_43 (tgt := 54) (by decide) (fun c4 => ?_) (fun c4 => ?_)
      · refine G_aload_n C dX6_takeLetter_46 rfl 0 rfl ?_
        refine G_iload_n C dX6_takeLetter_47 rfl 2 rfl ?_
        refine G_callV (rest := []) (fun a ha => g_runV C (nargs := 1) (As := [.int x2]) (rest := []) gX6_takeLetter_X6_closeClause rfl (by decide +kernel) rfl t2 rfl rfl rfl rfl dX6_takeLetter_48 (k_m_X6_closeClause X.1.2.1 X.2.1 (g_n X) (g_T X) (g_ag_sub hA (by decide +kernel)) x2 σ1 a ha)) (fun σ6 => ?_)
        refine G_goto C dX6_takeLetter_51 (tgt := 60) (by decide) ?_
        exact G_vret C q dX6_takeLetter_60
      · refine G_aload_n C dX6_takeLetter_54 rfl 0 rfl ?_
        refine G_iload_n C dX6_takeLetter_55 rfl 1 rfl ?_
        refine G_iload_n C dX6_takeLetter_56 rfl 2 rfl ?_
        refine G_callV (rest := []) (fun a ha => g_runV C (nargs := 2) (As := [.int x1, .int x2]) (rest := []) gX6_takeLetter_X6_openClause rfl (by decide +kernel) rfl t2 rfl rfl rfl rfl dX6_takeLetter_57 (k_m_X6_openClause X.1.2.1 X.2.1 (g_n X) (g_T X) (g_ag_sub hA (by decide +kernel)) x1 x2 σ1 a ha)) (fun σ5 => ?_)
        exact G_vret C q dX6_takeLetter_60
  · exact G_vret C q dX6_takeLetter_39
set_option maxHeartbeats 4000000 in
set_option maxRecDepth 100000 in
theorem w_m_X6_takeLetter_0 {X : g_X (g_St)} (C : g_C X cX6_takeLetter RX6 wsX6_takeLetter rm_m_X6_takeLetter 3) (q : g_qV X) (hA : g_ag L_m_X6_takeLetter (g_n X) (g_T X)) (x1 : Int32) (x2 : Int32) (σ : g_St) : G X 0 [(0, .ref (g_b X + 2)), (1, .int x1), (2, .int x2)] [] σ (m_X6_takeLetter x1 x2 σ) := by
  have t2 := g_ag_at hA (c := 2) rfl tc2
  unfold m_X6_takeLetter
  refine G_iload_n C dX6_takeLetter_0 rfl 1 rfl ?_
  refine G_bipush C dX6_takeLetter_1 (v := 48) (by decide +kernel) ?_
  refine G_icmp_lt C dX6_takeLetter_3 (tgt := 22) (by decide) (fun c1 => ?_) (fun c1 => ?_)
  · exact w_m_X6_takeLetter_22 C q hA x1 x2 σ
  · refine G_iload_n C dX6_takeLetter_6 rfl 1 rfl ?_
    refine G_bipush C dX6_takeLetter_7 (v := 57) (by decide +kernel) ?_
    refine G_icmp_gt C dX6_takeLetter_9 (tgt := 22) (by decide) (fun c2 => ?_) (fun c2 => ?_)
    · exact w_m_X6_takeLetter_22 C q hA x1 x2 σ
    · refine G_aload_n C dX6_takeLetter_12 rfl 0 rfl ?_
      refine G_iload_n C dX6_takeLetter_13 rfl 1 rfl ?_
      refine G_bipush C dX6_takeLetter_14 (v := 48) (by decide +kernel) ?_
      refine G_isub C dX6_takeLetter_16 ?_
      refine G_iload_n C dX6_takeLetter_17 rfl 2 rfl ?_
      refine G_callV (rest := []) (fun a ha => g_runV C (nargs := 2) (As := [.int (x1 - (48 : Int32)), .int x2]) (rest := []) gX6_takeLetter_X6_takeFigure rfl (by decide +kernel) rfl t2 rfl rfl rfl rfl dX6_takeLetter_18 (k_m_X6_takeFigure X.1.2.1 X.2.1 (g_n X) (g_T X) (g_ag_sub hA (by decide +kernel)) (x1 - (48 : Int32)) x2 σ a ha)) (fun σ3 => ?_)
      exact G_vret C q dX6_takeLetter_21
theorem k_m_X6_takeLetter (l : Launch) (E : g_E) (n : Nat) (T : Nat → g_Sh) (hA : g_ag L_m_X6_takeLetter n T) (x1 : Int32) (x2 : Int32) (σ : g_St) (a : g_St) (h : m_X6_takeLetter x1 x2 σ = some a) : Met l yX6_takeLetter wsX6_takeLetter rm_m_X6_takeLetter (g_Pc E n T [.ref (E.2.1 + 2), .int x1, .int x2] σ) (g_Qv E n T a) 0 0 (g_A E) :=
  g_metV (by decide +kernel) rfl rfl (Nat.le_of_ble_eq_true rfl) (fun M Qf C q => by rw [← h]; exact w_m_X6_takeLetter_0 C q hA x1 x2 σ)
def L_m_X7_everyTicket_3 : List Nat := [3]
abbrev rm_m_X7_everyTicket_3 : Room := { frames := 0, cells := 0, slots := 0, locals := 0 }
set_option maxHeartbeats 4000000 in
set_option maxRecDepth 100000 in
theorem w_m_X7_everyTicket_3_0 {X : g_X (Int32 × g_St)} (C : g_C X cX7_everyTicket RX7 wsX7_everyTicket rm_m_X7_everyTicket_3 1) (q : g_qI X) (hA : g_ag L_m_X7_everyTicket_3 (g_n X) (g_T X)) (σ : g_St) : G X 0 [(0, .ref (g_b X + 3))] [] σ (m_X7_everyTicket_3 σ) := by
  have t3 := g_ag_at hA (c := 3) rfl tc3
  unfold m_X7_everyTicket_3
  refine G_iconst C dX7_everyTicket_0 (v := 1) (by decide +kernel) ?_
  refine G_aload_n C dX7_everyTicket_1 rfl 0 rfl ?_
  refine G_getI C f_X7_everyTicket_25 t3 rfl dX7_everyTicket_2 ?_
  refine G_ishl C dX7_everyTicket_5 ?_
  refine G_iconst C dX7_everyTicket_6 (v := 1) (by decide +kernel) ?_
  refine G_isub C dX7_everyTicket_7 ?_
  exact G_iret C q dX7_everyTicket_8
theorem k_m_X7_everyTicket_3 (l : Launch) (E : g_E) (n : Nat) (T : Nat → g_Sh) (hA : g_ag L_m_X7_everyTicket_3 n T) (σ : g_St) (a : Int32 × g_St) (h : m_X7_everyTicket_3 σ = some a) : Met l yX7_everyTicket wsX7_everyTicket rm_m_X7_everyTicket_3 (g_Pc E n T [.ref (E.2.1 + 3)] σ) (g_Qi E n T a) 0 0 (g_A E) :=
  g_metI (by decide +kernel) rfl rfl (Nat.le_of_ble_eq_true rfl) (fun M Qf C q => by rw [← h]; exact w_m_X7_everyTicket_3_0 C q hA σ)
def L_m_X6_read_1 : List Nat := [1, 2, 3, 4, 5, 6, 7, 8, 9, 10, 11, 12]
abbrev rm_m_X6_read_1 : Room := { frames := 4, cells := 0, slots := 0, locals := 123 }
theorem f_X6_read_12 : g_Fld wsX6_read RX6 12 6 0 := ⟨RX6, TX6, 12, rfl, by decide +kernel, by decide, by decide +kernel⟩
theorem f_X6_read_21 : g_Fld wsX6_read RX6 21 6 1 := ⟨RX6, TX6, 12, rfl, by decide +kernel, by decide, by decide +kernel⟩
theorem f_X6_read_32 : g_Fld wsX6_read RX6 32 6 10 := ⟨RX6, TX6, 12, rfl, by decide +kernel, by decide, by decide +kernel⟩
theorem f_X6_read_43 : g_Fld wsX6_read RX6 43 6 3 := ⟨RX6, TX6, 12, rfl, by decide +kernel, by decide, by decide +kernel⟩
theorem p_X6_read_53 : g_FldP wsX6_read RX6 53 4 5 .int := ⟨RX4, TX4, 8, tyX4, rfl, by decide +kernel, by decide, by decide +kernel, tyX4_ok, nmX4, rfl, by decide +kernel⟩
set_option maxHeartbeats 4000000 in
set_option maxRecDepth 100000 in
theorem w_m_X6_read_1_69 {X : g_X (Int32 × g_St)} (C : g_C X cX6_read RX6 wsX6_read rm_m_X6_read_1 4) (q : g_qI X) (hA : g_ag L_m_X6_read_1 (g_n X) (g_T X)) (N : Nat) (σ : g_St) : G X 69 [(0, .ref (g_b X + 2))] [] σ (m_X6_read_1_69 N σ) := by
  have t2 := g_ag_at hA (c := 2) rfl tc2
  have t3 := g_ag_at hA (c := 3) rfl tc3
  have t6 := g_ag_at hA (c := 6) rfl tc6
  unfold m_X6_read_1_69
  refine G_aload_n C dX6_read_69 rfl 0 rfl ?_
  refine G_getR C f_X6_read_21 t2 rfl dX6_read_70 ?_
  refine G_aload_n C dX6_read_73 rfl 0 rfl ?_
  refine G_getR C f_X6_read_12 t2 rfl dX6_read_74 ?_
  refine G_callI (rest := [.ref (g_b X + 6)]) (fun a ha => g_runV C (nargs := 0) (As := []) (rest := [.ref (g_b X + 6)]) gX6_read_X7_everyTicket rfl (by decide +kernel) rfl t3 rfl rfl rfl rfl dX6_read_77 (k_m_X7_everyTicket_3 X.1.2.1 X.2.1 (g_n X) (g_T X) (g_ag_sub hA (by decide +kernel)) σ a ha)) (fun q1 => ?_)
  refine G_putI C p_X6_read_53 t6 rfl rfl rfl dX6_read_80 ?_
  refine G_lts (fun σ2 => ?_)
  refine G_aload_n C dX6_read_83 rfl 0 rfl ?_
  refine G_getI C f_X6_read_32 t2 rfl dX6_read_84 ?_
  exact G_iret C q dX6_read_87
set_option maxHeartbeats 4000000 in
set_option maxRecDepth 100000 in
theorem w_m_X6_read_1_49 {X : g_X (Int32 × g_St)} (C : g_C X cX6_read RX6 wsX6_read rm_m_X6_read_1 4) (q : g_qI X) (hA : g_ag L_m_X6_read_1 (g_n X) (g_T X)) (N : Nat) (x2 : Int32) (σ : g_St) : G X 49 [(0, .ref (g_b X + 2)), (2, .int x2)] [] σ (m_X6_read_1_49 N x2 σ) := by
  have t2 := g_ag_at hA (c := 2) rfl tc2
  unfold m_X6_read_1_49
  refine G_aload_n C dX6_read_49 rfl 0 rfl ?_
  refine G_getI C f_X6_read_32 t2 rfl dX6_read_50 ?_
  refine G_if_ne C dX6_read_53 (tgt := 69) (by decide) (fun c1 => ?_) (fun c1 => ?_)
  · refine G_aload_n C dX6_read_56 rfl 0 rfl ?_
    refine G_getI C f_X6_read_43 t2 rfl dX6_read_57 ?_
    refine G_if_eq C dX6_read_60 (tgt := 69) (by decide) (fun c2 => ?_) (fun c2 => ?_)
    · exact G_sub (w_m_X6_read_1_69 C q hA N σ) [0] rfl
    · refine G_aload_n C dX6_read_63 rfl 0 rfl ?_
      refine G_iconst C dX6_read_64 (v := 1) (by decide +kernel) ?_
      refine G_iload_n C dX6_read_65 rfl 1 rfl ?_
      refine G_callV (rest := []) (fun a ha => g_runV C (nargs := 2) (As := [.int (1 : Int32), .int x2]) (rest := []) gX6_read_X6_fail rfl (by decide +kernel) rfl t2 rfl rfl rfl rfl dX6_read_66 (k_m_X6_fail X.1.2.1 X.2.1 (g_n X) (g_T X) (g_ag_sub hA (by decide +kernel)) (1 : Int32) x2 σ a ha)) (fun σ3 => ?_)
      exact G_sub (w_m_X6_read_1_69 C q hA N σ3) [0] rfl
  · exact G_sub (w_m_X6_read_1_69 C q hA N σ) [0] rfl
set_option maxHeartbeats 4000000 in
set_option maxRecDepth 100000 in
theorem w_m_X6_read_1_38 {X : g_X (Int32 × g_St)} (C : g_C X cX6_read RX6 wsX6_read rm_m_X6_read_1 4) (q : g_qI X) (hA : g_ag L_m_X6_read_1 (g_n X) (g_T X)) (N : Nat) (x2 : Int32) (σ : g_St) : G X 38 [(0, .ref (g_b X + 2)), (2, .int x2)] [] σ (m_X6_read_1_38 N x2 σ) := by
  have t2 := g_ag_at hA (c := 2) rfl tc2
  unfold m_X6_read_1_38
  refine G_aload_n C dX6_read_38 rfl 0 rfl ?_
  refine G_getI C f_X6_read_32 t2 rfl dX6_read_39 ?_
  refine G_if_ne C dX6_read_42 (tgt := 49) (by decide) (fun c1 => ?_) (fun c1 => ?_)
  · refine G_aload_n C dX6_read_45 rfl 0 rfl ?_
    refine G_callV (rest := []) (fun a ha => g_runV C (nargs := 0) (As := []) (rest := []) gX6_read_X6_closeNumber rfl (by decide +kernel) rfl t2 rfl rfl rfl rfl dX6_read_46 (k_m_X6_closeNumber X.1.2.1 X.2.1 (g_n X) (g_T X) (g_ag_sub hA (by decide +kernel)) σ a ha)) (fun σ2 => ?_)
    exact w_m_X6_read_1_49 C q hA N x2 σ2
  · exact w_m_X6_read_1_49 C q hA N x2 σ
set_option maxHeartbeats 4000000 in
set_option maxRecDepth 100000 in
theorem w_m_X6_read_1_6 {X : g_X (Int32 × g_St)} (C : g_C X cX6_read RX6 wsX6_read rm_m_X6_read_1 4) (q : g_qI X) (hA : g_ag L_m_X6_read_1 (g_n X) (g_T X)) (N : Nat) : ∀ (fu : Nat) (x2 : Int32) (x3 : Int32) (σ : g_St), G X 6 [(0, .ref (g_b X + 2)), (1, .ref (g_b X + 1)), (2, .int x2), (3, .int x3)] [] σ (m_X6_read_1_6 N fu x2 x3 σ) := by
  have t1 := g_ag_at hA (c := 1) rfl tc1
  have t2 := g_ag_at hA (c := 2) rfl tc2
  intro fu
  induction fu with
  | zero => intro x2 x3 σ; exact G_none
  | succ fu ih =>
    intro x2 x3 σ
    unfold m_X6_read_1_6
    refine G_iload_n C dX6_read_6 rfl 3 rfl ?_
    refine G_iload_n C dX6_read_7 rfl 2 rfl ?_
    refine G_icmp_ge C dX6_read_8 (tgt := 38) (by decide) (fun c1 => ?_) (fun c1 => ?_)
    · exact G_sub (w_m_X6_read_1_38 C q hA N x2 σ) [0, 2] rfl
    · refine G_iload_n C dX6_read_11 rfl 3 rfl ?_
      refine G_aload_n C dX6_read_12 rfl 1 rfl ?_
      refine G_alen C t1 (v := 250) (by decide +kernel) dX6_read_13 ?_
      refine G_icmp_ge C dX6_read_14 (tgt := 38) (by decide) (fun c2 => ?_) (fun c2 => ?_)
      · exact G_sub (w_m_X6_read_1_38 C q hA N x2 σ) [0, 2] rfl
      · refine G_aload_n C dX6_read_17 rfl 0 rfl ?_
        refine G_getI C f_X6_read_32 t2 rfl dX6_read_18 ?_
        refine G_if_ne C dX6_read_21 (tgt := 38) (by decide) (fun c3 => ?_) (fun c3 => ?_)
        · refine G_aload_n C dX6_read_24 rfl 0 rfl ?_
          refine G_aload_n C dX6_read_25 rfl 1 rfl ?_
          refine G_iload_n C dX6_read_26 rfl 3 rfl ?_
          refine G_chk (fun h4 => ?_)
          refine G_ald C t1 h4 dX6_read_27 ?_
          refine G_iload_n C dX6_read_28 rfl 3 rfl ?_
          refine G_callV (rest := []) (fun a ha => g_runV C (nargs := 2) (As := [.int (σ.1 1 x3.toNatClampNeg), .int x3]) (rest := []) gX6_read_X6_takeLetter rfl (by decide +kernel) rfl t2 rfl rfl rfl rfl dX6_read_29 (k_m_X6_takeLetter X.1.2.1 X.2.1 (g_n X) (g_T X) (g_ag_sub hA (by decide +kernel)) (σ.1 1 x3.toNatClampNeg) x3 σ a ha)) (fun σ5 => ?_)
          refine G_iinc C dX6_read_32 3 rfl (v := (x3 + (1 : Int32))) (by rfl) rfl (lv' := [(3, .int (x3 + (1 : Int32))), (0, .ref (g_b X + 2)), (1, .ref (g_b X + 1)), (2, .int x2)]) rfl ?_
          refine G_ltv (fun v => [(3, .int v), (0, .ref (g_b X + 2)), (1, .ref (g_b X + 1)), (2, .int x2)]) (fun v6 => ?_)
          refine G_goto C dX6_read_35 (tgt := 6) (by decide) ?_
          exact G_sub (ih x2 v6 σ5) [1, 2, 3, 0] rfl
        · exact G_sub (w_m_X6_read_1_38 C q hA N x2 σ) [0, 2] rfl
set_option maxHeartbeats 4000000 in
set_option maxRecDepth 100000 in
theorem w_m_X6_read_1_0 {X : g_X (Int32 × g_St)} (C : g_C X cX6_read RX6 wsX6_read rm_m_X6_read_1 4) (q : g_qI X) (hA : g_ag L_m_X6_read_1 (g_n X) (g_T X)) (N : Nat) (x2 : Int32) (σ : g_St) : G X 0 [(0, .ref (g_b X + 2)), (1, .ref (g_b X + 1)), (2, .int x2)] [] σ (m_X6_read_1 N x2 σ) := by
  have t2 := g_ag_at hA (c := 2) rfl tc2
  unfold m_X6_read_1
  refine G_aload_n C dX6_read_0 rfl 0 rfl ?_
  refine G_callV (rest := []) (fun a ha => g_runV C (nargs := 0) (As := []) (rest := []) gX6_read_X6_begin rfl (by decide +kernel) rfl t2 rfl rfl rfl rfl dX6_read_1 (k_m_X6_begin X.1.2.1 X.2.1 (g_n X) (g_T X) (g_ag_sub hA (by decide +kernel)) N σ a ha)) (fun σ1 => ?_)
  refine G_iconst C dX6_read_4 (v := 0) (by decide +kernel) ?_
  refine G_istore_n C dX6_read_5 rfl rfl (lv' := [(3, .int (0 : Int32)), (0, .ref (g_b X + 2)), (1, .ref (g_b X + 1)), (2, .int x2)]) rfl ?_
  exact G_sub (w_m_X6_read_1_6 C q hA N N x2 (0 : Int32) σ1) [1, 2, 3, 0] rfl
theorem k_m_X6_read_1 (l : Launch) (E : g_E) (n : Nat) (T : Nat → g_Sh) (hA : g_ag L_m_X6_read_1 n T) (N : Nat) (x2 : Int32) (σ : g_St) (a : Int32 × g_St) (h : m_X6_read_1 N x2 σ = some a) : Met l yX6_read wsX6_read rm_m_X6_read_1 (g_Pc E n T [.ref (E.2.1 + 2), .ref (E.2.1 + 1), .int x2] σ) (g_Qi E n T a) 0 0 (g_A E) :=
  g_metI (by decide +kernel) rfl rfl (Nat.le_of_ble_eq_true rfl) (fun M Qf C q => by rw [← h]; exact w_m_X6_read_1_0 C q hA N x2 σ)
def L_m_X7_copyFrom_3 : List Nat := [3, 4, 5, 13, 14, 15]
abbrev rm_m_X7_copyFrom_3 : Room := { frames := 1, cells := 0, slots := 0, locals := 60 }
theorem f_X7_copyFrom_15 : g_Fld wsX7_copyFrom RX7 15 7 1 := ⟨RX7, TX7, 6, rfl, by decide +kernel, by decide, by decide +kernel⟩
theorem f_X7_copyFrom_21 : g_Fld wsX7_copyFrom RX7 21 7 2 := ⟨RX7, TX7, 6, rfl, by decide +kernel, by decide, by decide +kernel⟩
theorem f_X7_copyFrom_25 : g_Fld wsX7_copyFrom RX7 25 7 3 := ⟨RX7, TX7, 6, rfl, by decide +kernel, by decide, by decide +kernel⟩
theorem f_X7_copyFrom_28 : g_Fld wsX7_copyFrom RX7 28 7 4 := ⟨RX7, TX7, 6, rfl, by decide +kernel, by decide, by decide +kernel⟩
theorem f_X7_copyFrom_31 : g_Fld wsX7_copyFrom RX7 31 7 5 := ⟨RX7, TX7, 6, rfl, by decide +kernel, by decide, by decide +kernel⟩
theorem f_X7_copyFrom_9 : g_Fld wsX7_copyFrom RX7 9 7 0 := ⟨RX7, TX7, 6, rfl, by decide +kernel, by decide, by decide +kernel⟩
theorem p_X7_copyFrom_21 : g_FldP wsX7_copyFrom RX7 21 7 2 .int := ⟨RX7, TX7, 6, tyX7, rfl, by decide +kernel, by decide, by decide +kernel, tyX7_ok, nmX7, rfl, by decide +kernel⟩
theorem p_X7_copyFrom_25 : g_FldP wsX7_copyFrom RX7 25 7 3 .int := ⟨RX7, TX7, 6, tyX7, rfl, by decide +kernel, by decide, by decide +kernel, tyX7_ok, nmX7, rfl, by decide +kernel⟩
theorem p_X7_copyFrom_28 : g_FldP wsX7_copyFrom RX7 28 7 4 .int := ⟨RX7, TX7, 6, tyX7, rfl, by decide +kernel, by decide, by decide +kernel, tyX7_ok, nmX7, rfl, by decide +kernel⟩
theorem p_X7_copyFrom_31 : g_FldP wsX7_copyFrom RX7 31 7 5 .boolean := ⟨RX7, TX7, 6, tyX7, rfl, by decide +kernel, by decide, by decide +kernel, tyX7_ok, nmX7, rfl, by decide +kernel⟩
theorem w_X7_copyFrom_35 : g_cw wsX7_copyFrom RX7 35 := ⟨by decide +kernel, by decide +kernel, by decide +kernel, by decide +kernel⟩
set_option maxHeartbeats 4000000 in
set_option maxRecDepth 100000 in
theorem w_m_X7_copyFrom_3_0 {X : g_X (g_St)} (C : g_C X cX7_copyFrom RX7 wsX7_copyFrom rm_m_X7_copyFrom_3 2) (q : g_qV X) (hA : g_ag L_m_X7_copyFrom_3 (g_n X) (g_T X)) (σ : g_St) : G X 0 [(0, .ref (g_b X + 13)), (1, .ref (g_b X + 3))] [] σ (m_X7_copyFrom_3 σ) := by
  have t3 := g_ag_at hA (c := 3) rfl tc3
  have t4 := g_ag_at hA (c := 4) rfl tc4
  have t5 := g_ag_at hA (c := 5) rfl tc5
  have t13 := g_ag_at hA (c := 13) rfl tc13
  have t14 := g_ag_at hA (c := 14) rfl tc14
  have t15 := g_ag_at hA (c := 15) rfl tc15
  unfold m_X7_copyFrom_3
  refine G_aload_n C dX7_copyFrom_0 rfl 1 rfl ?_
  refine G_getR C f_X7_copyFrom_9 t3 rfl dX7_copyFrom_1 ?_
  refine G_iconst C dX7_copyFrom_4 (v := 0) (by decide +kernel) ?_
  refine G_aload_n C dX7_copyFrom_5 rfl 0 rfl ?_
  refine G_getR C f_X7_copyFrom_9 t13 rfl dX7_copyFrom_6 ?_
  refine G_iconst C dX7_copyFrom_9 (v := 0) (by decide +kernel) ?_
  refine G_bipush C dX7_copyFrom_10 (v := 8) (by decide +kernel) ?_
  refine G_copyk C w_X7_copyFrom_35 rfl t4 t14 (by decide +kernel) (ks := 0) (kd := 0) (kn := 8) rfl rfl rfl dX7_copyFrom_12 ?_
  refine G_lts (fun σ1 => ?_)
  refine G_aload_n C dX7_copyFrom_15 rfl 1 rfl ?_
  refine G_getR C f_X7_copyFrom_15 t3 rfl dX7_copyFrom_16 ?_
  refine G_iconst C dX7_copyFrom_19 (v := 0) (by decide +kernel) ?_
  refine G_aload_n C dX7_copyFrom_20 rfl 0 rfl ?_
  refine G_getR C f_X7_copyFrom_15 t13 rfl dX7_copyFrom_21 ?_
  refine G_iconst C dX7_copyFrom_24 (v := 0) (by decide +kernel) ?_
  refine G_iconst C dX7_copyFrom_25 (v := 4) (by decide +kernel) ?_
  refine G_copyk C w_X7_copyFrom_35 rfl t5 t15 (by decide +kernel) (ks := 0) (kd := 0) (kn := 4) rfl rfl rfl dX7_copyFrom_26 ?_
  refine G_lts (fun σ2 => ?_)
  refine G_aload_n C dX7_copyFrom_29 rfl 0 rfl ?_
  refine G_aload_n C dX7_copyFrom_30 rfl 1 rfl ?_
  refine G_getI C f_X7_copyFrom_21 t3 rfl dX7_copyFrom_31 ?_
  refine G_putI C p_X7_copyFrom_21 t13 rfl rfl rfl dX7_copyFrom_34 ?_
  refine G_lts (fun σ3 => ?_)
  refine G_aload_n C dX7_copyFrom_37 rfl 0 rfl ?_
  refine G_aload_n C dX7_copyFrom_38 rfl 1 rfl ?_
  refine G_getI C f_X7_copyFrom_25 t3 rfl dX7_copyFrom_39 ?_
  refine G_putI C p_X7_copyFrom_25 t13 rfl rfl rfl dX7_copyFrom_42 ?_
  refine G_lts (fun σ4 => ?_)
  refine G_aload_n C dX7_copyFrom_45 rfl 0 rfl ?_
  refine G_aload_n C dX7_copyFrom_46 rfl 1 rfl ?_
  refine G_getI C f_X7_copyFrom_28 t3 rfl dX7_copyFrom_47 ?_
  refine G_putI C p_X7_copyFrom_28 t13 rfl rfl rfl dX7_copyFrom_50 ?_
  refine G_lts (fun σ5 => ?_)
  refine G_aload_n C dX7_copyFrom_53 rfl 0 rfl ?_
  refine G_aload_n C dX7_copyFrom_54 rfl 1 rfl ?_
  refine G_getI C f_X7_copyFrom_31 t3 rfl dX7_copyFrom_55 ?_
  refine G_chk (fun h6 => ?_)
  refine G_putI C p_X7_copyFrom_31 t13 rfl (g_nz h6) (g_fz h6) dX7_copyFrom_58 ?_
  refine G_lts (fun σ7 => ?_)
  exact G_vret C q dX7_copyFrom_61
theorem k_m_X7_copyFrom_3 (l : Launch) (E : g_E) (n : Nat) (T : Nat → g_Sh) (hA : g_ag L_m_X7_copyFrom_3 n T) (σ : g_St) (a : g_St) (h : m_X7_copyFrom_3 σ = some a) : Met l yX7_copyFrom wsX7_copyFrom rm_m_X7_copyFrom_3 (g_Pc E n T [.ref (E.2.1 + 13), .ref (E.2.1 + 3)] σ) (g_Qv E n T a) 0 0 (g_A E) :=
  g_metV (by decide +kernel) rfl rfl (Nat.le_of_ble_eq_true rfl) (fun M Qf C q => by rw [← h]; exact w_m_X7_copyFrom_3_0 C q hA σ)
def L_m_X7_rightsAt : List Nat := [13, 15]
abbrev rm_m_X7_rightsAt : Room := { frames := 0, cells := 0, slots := 0, locals := 0 }
theorem f_X7_rightsAt_15 : g_Fld wsX7_rightsAt RX7 15 7 1 := ⟨RX7, TX7, 6, rfl, by decide +kernel, by decide, by decide +kernel⟩
set_option maxHeartbeats 4000000 in
set_option maxRecDepth 100000 in
theorem w_m_X7_rightsAt_25 {X : g_X (Int32 × g_St)} (C : g_C X cX7_rightsAt RX7 wsX7_rightsAt rm_m_X7_rightsAt 4) (q : g_qI X) (hA : g_ag L_m_X7_rightsAt (g_n X) (g_T X)) (k4 : Int32 → Int32 → Int32 → g_St → Option (Int32 × g_St)) (hk4 : ∀ (x1 : Int32) (x2 : Int32) (x3 : Int32) (σ : g_St), G X 4 [(0, .ref (g_b X + 13)), (1, .int x1), (2, .int x2), (3, .int x3)] [] σ (k4 x1 x2 x3 σ)) (N : Nat) (x1 : Int32) (x2 : Int32) (x3 : Int32) (σ : g_St) : G X 25 [(0, .ref (g_b X + 13)), (1, .int x1), (2, .int x2), (3, .int x3)] [] σ (m_X7_rightsAt_25 k4 N x1 x2 x3 σ) := by
  unfold m_X7_rightsAt_25
  refine G_iinc C dX7_rightsAt_25 3 rfl (v := (x3 + (1 : Int32))) (by rfl) rfl (lv' := [(3, .int (x3 + (1 : Int32))), (0, .ref (g_b X + 13)), (1, .int x1), (2, .int x2)]) rfl ?_
  refine G_ltv (fun v => [(3, .int v), (0, .ref (g_b X + 13)), (1, .int x1), (2, .int x2)]) (fun v1 => ?_)
  refine G_goto C dX7_rightsAt_28 (tgt := 4) (by decide) ?_
  exact G_sub (hk4 x1 x2 v1 σ) [1, 2, 3, 0] rfl
set_option maxHeartbeats 4000000 in
set_option maxRecDepth 100000 in
theorem w_m_X7_rightsAt_4 {X : g_X (Int32 × g_St)} (C : g_C X cX7_rightsAt RX7 wsX7_rightsAt rm_m_X7_rightsAt 4) (q : g_qI X) (hA : g_ag L_m_X7_rightsAt (g_n X) (g_T X)) (N : Nat) : ∀ (fu : Nat) (x1 : Int32) (x2 : Int32) (x3 : Int32) (σ : g_St), G X 4 [(0, .ref (g_b X + 13)), (1, .int x1), (2, .int x2), (3, .int x3)] [] σ (m_X7_rightsAt_4 N fu x1 x2 x3 σ) := by
  have t13 := g_ag_at hA (c := 13) rfl tc13
  have t15 := g_ag_at hA (c := 15) rfl tc15
  intro fu
  induction fu with
  | zero => intro x1 x2 x3 σ; exact G_none
  | succ fu ih =>
    intro x1 x2 x3 σ
    unfold m_X7_rightsAt_4
    refine G_iload_n C dX7_rightsAt_4 rfl 3 rfl ?_
    refine G_iconst C dX7_rightsAt_5 (v := 4) (by decide +kernel) ?_
    refine G_icmp_ge C dX7_rightsAt_6 (tgt := 31) (by decide) (fun c1 => ?_) (fun c1 => ?_)
    · refine G_iload_n C dX7_rightsAt_31 rfl 2 rfl ?_
      exact G_iret C q dX7_rightsAt_32
    · refine G_iload_n C dX7_rightsAt_9 rfl 1 rfl ?_
      refine G_aload_n C dX7_rightsAt_10 rfl 0 rfl ?_
      refine G_getR C f_X7_rightsAt_15 t13 rfl dX7_rightsAt_11 ?_
      refine G_iload_n C dX7_rightsAt_14 rfl 3 rfl ?_
      refine G_chk (fun h2 => ?_)
      refine G_ald C t15 h2 dX7_rightsAt_15 ?_
      refine G_icmp_lt C dX7_rightsAt_16 (tgt := 25) (by decide) (fun c3 => ?_) (fun c3 => ?_)
      · exact w_m_X7_rightsAt_25 C q hA (m_X7_rightsAt_4 N fu) ih N x1 x2 x3 σ
      · refine G_iload_n C dX7_rightsAt_19 rfl 2 rfl ?_
        refine G_iconst C dX7_rightsAt_20 (v := 1) (by decide +kernel) ?_
        refine G_iload_n C dX7_rightsAt_21 rfl 3 rfl ?_
        refine G_ishl C dX7_rightsAt_22 ?_
        refine G_ior C dX7_rightsAt_23 ?_
        refine G_lti (fun v4 => ?_)
        refine G_istore_n C dX7_rightsAt_24 rfl rfl (lv' := [(2, .int v4), (0, .ref (g_b X + 13)), (1, .int x1), (3, .int x3)]) rfl ?_
        exact G_sub (w_m_X7_rightsAt_25 C q hA (m_X7_rightsAt_4 N fu) ih N x1 v4 x3 σ) [1, 2, 0, 3] rfl
set_option maxHeartbeats 4000000 in
set_option maxRecDepth 100000 in
theorem w_m_X7_rightsAt_0 {X : g_X (Int32 × g_St)} (C : g_C X cX7_rightsAt RX7 wsX7_rightsAt rm_m_X7_rightsAt 4) (q : g_qI X) (hA : g_ag L_m_X7_rightsAt (g_n X) (g_T X)) (N : Nat) (x1 : Int32) (σ : g_St) : G X 0 [(0, .ref (g_b X + 13)), (1, .int x1)] [] σ (m_X7_rightsAt N x1 σ) := by
  unfold m_X7_rightsAt
  refine G_iconst C dX7_rightsAt_0 (v := 0) (by decide +kernel) ?_
  refine G_istore_n C dX7_rightsAt_1 rfl rfl (lv' := [(2, .int (0 : Int32)), (0, .ref (g_b X + 13)), (1, .int x1)]) rfl ?_
  refine G_iconst C dX7_rightsAt_2 (v := 0) (by decide +kernel) ?_
  refine G_istore_n C dX7_rightsAt_3 rfl rfl (lv' := [(3, .int (0 : Int32)), (2, .int (0 : Int32)), (0, .ref (g_b X + 13)), (1, .int x1)]) rfl ?_
  exact G_sub (w_m_X7_rightsAt_4 C q hA N N x1 (0 : Int32) (0 : Int32) σ) [2, 3, 1, 0] rfl
theorem k_m_X7_rightsAt (l : Launch) (E : g_E) (n : Nat) (T : Nat → g_Sh) (hA : g_ag L_m_X7_rightsAt n T) (N : Nat) (x1 : Int32) (σ : g_St) (a : Int32 × g_St) (h : m_X7_rightsAt N x1 σ = some a) : Met l yX7_rightsAt wsX7_rightsAt rm_m_X7_rightsAt (g_Pc E n T [.ref (E.2.1 + 13), .int x1] σ) (g_Qi E n T a) 0 0 (g_A E) :=
  g_metI (by decide +kernel) rfl rfl (Nat.le_of_ble_eq_true rfl) (fun M Qf C q => by rw [← h]; exact w_m_X7_rightsAt_0 C q hA N x1 σ)
