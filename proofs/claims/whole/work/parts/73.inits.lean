theorem g_dvX0 : ∀ j, j < 2 → ∀ b : Nat, defaultValue (tyX0 j) = vp_V (g_fs b (fun _ => 0) [some none, none]) j := fun j hj b => by
  match j, hj with
  | 0, _ => rfl
  | 1, _ => rfl
  | k + 2, h => omega
theorem g_dvX1 : ∀ j, j < 8 → ∀ b : Nat, defaultValue (tyX1 j) = vp_V (g_fs b (fun _ => 0) [some none, some none, some none, some none, none, none, none, none]) j := fun j hj b => by
  match j, hj with
  | 0, _ => rfl
  | 1, _ => rfl
  | 2, _ => rfl
  | 3, _ => rfl
  | 4, _ => rfl
  | 5, _ => rfl
  | 6, _ => rfl
  | 7, _ => rfl
  | k + 8, h => omega
theorem g_dvX2 : ∀ j, j < 6 → ∀ b : Nat, defaultValue (tyX2 j) = vp_V (g_fs b (fun _ => 0) [some none, some none, some none, none, none, none]) j := fun j hj b => by
  match j, hj with
  | 0, _ => rfl
  | 1, _ => rfl
  | 2, _ => rfl
  | 3, _ => rfl
  | 4, _ => rfl
  | 5, _ => rfl
  | k + 6, h => omega
theorem g_dvX3 : ∀ j, j < 3 → ∀ b : Nat, defaultValue (tyX3 j) = vp_V (g_fs b (fun _ => 0) [some none, some none, none]) j := fun j hj b => by
  match j, hj with
  | 0, _ => rfl
  | 1, _ => rfl
  | 2, _ => rfl
  | k + 3, h => omega
theorem g_dvX4 : ∀ j, j < 8 → ∀ b : Nat, defaultValue (tyX4 j) = vp_V (g_fs b (fun _ => 0) [some none, some none, some none, some none, some none, none, none, none]) j := fun j hj b => by
  match j, hj with
  | 0, _ => rfl
  | 1, _ => rfl
  | 2, _ => rfl
  | 3, _ => rfl
  | 4, _ => rfl
  | 5, _ => rfl
  | 6, _ => rfl
  | 7, _ => rfl
  | k + 8, h => omega
theorem g_dvX5 : ∀ j, j < 3 → ∀ b : Nat, defaultValue (tyX5 j) = vp_V (g_fs b (fun _ => 0) [some none, none, none]) j := fun j hj b => by
  match j, hj with
  | 0, _ => rfl
  | 1, _ => rfl
  | 2, _ => rfl
  | k + 3, h => omega
theorem g_dvX6 : ∀ j, j < 12 → ∀ b : Nat, defaultValue (tyX6 j) = vp_V (g_fs b (fun _ => 0) [some none, some none, some none, none, none, none, none, none, none, none, none, none]) j := fun j hj b => by
  match j, hj with
  | 0, _ => rfl
  | 1, _ => rfl
  | 2, _ => rfl
  | 3, _ => rfl
  | 4, _ => rfl
  | 5, _ => rfl
  | 6, _ => rfl
  | 7, _ => rfl
  | 8, _ => rfl
  | 9, _ => rfl
  | 10, _ => rfl
  | 11, _ => rfl
  | k + 12, h => omega
theorem g_dvX7 : ∀ j, j < 6 → ∀ b : Nat, defaultValue (tyX7 j) = vp_V (g_fs b (fun _ => 0) [some none, some none, none, none, none, none]) j := fun j hj b => by
  match j, hj with
  | 0, _ => rfl
  | 1, _ => rfl
  | 2, _ => rfl
  | 3, _ => rfl
  | 4, _ => rfl
  | 5, _ => rfl
  | k + 6, h => omega
theorem g_dvX8 : ∀ j, j < 2 → ∀ b : Nat, defaultValue (tyX8 j) = vp_V (g_fs b (fun _ => 0) [some none, none]) j := fun j hj b => by
  match j, hj with
  | 0, _ => rfl
  | 1, _ => rfl
  | k + 2, h => omega
theorem g_dvX9 : ∀ j, j < 4 → ∀ b : Nat, defaultValue (tyX9 j) = vp_V (g_fs b (fun _ => 0) [some none, some none, some none, none]) j := fun j hj b => by
  match j, hj with
  | 0, _ => rfl
  | 1, _ => rfl
  | 2, _ => rfl
  | 3, _ => rfl
  | k + 4, h => omega
theorem g_dvX10 : ∀ j, j < 15 → ∀ b : Nat, defaultValue (tyX10 j) = vp_V (g_fs b (fun _ => 0) [some none, some none, some none, some none, some none, some none, some none, some none, some none, some none, some none, some none, none, none, none]) j := fun j hj b => by
  match j, hj with
  | 0, _ => rfl
  | 1, _ => rfl
  | 2, _ => rfl
  | 3, _ => rfl
  | 4, _ => rfl
  | 5, _ => rfl
  | 6, _ => rfl
  | 7, _ => rfl
  | 8, _ => rfl
  | 9, _ => rfl
  | 10, _ => rfl
  | 11, _ => rfl
  | 12, _ => rfl
  | 13, _ => rfl
  | 14, _ => rfl
  | k + 15, h => omega
theorem g_dvX11 : ∀ j, j < 27 → ∀ b : Nat, defaultValue (tyX11 j) = vp_V (g_fs b (fun _ => 0) [some none, some none, some none, none, none, none, none, some none, none, none, some none, some none, some none, some none, some none, some none, some none, none, some none, none, some none, none, some none, none, none, none, some none]) j := fun j hj b => by
  match j, hj with
  | 0, _ => rfl
  | 1, _ => rfl
  | 2, _ => rfl
  | 3, _ => rfl
  | 4, _ => rfl
  | 5, _ => rfl
  | 6, _ => rfl
  | 7, _ => rfl
  | 8, _ => rfl
  | 9, _ => rfl
  | 10, _ => rfl
  | 11, _ => rfl
  | 12, _ => rfl
  | 13, _ => rfl
  | 14, _ => rfl
  | 15, _ => rfl
  | 16, _ => rfl
  | 17, _ => rfl
  | 18, _ => rfl
  | 19, _ => rfl
  | 20, _ => rfl
  | 21, _ => rfl
  | 22, _ => rfl
  | 23, _ => rfl
  | 24, _ => rfl
  | 25, _ => rfl
  | 26, _ => rfl
  | k + 27, h => omega
/-! m_X7_init_3 -/
abbrev rm_m_X7_init_3 : Room := { frames := 1, cells := 2, slots := 12, locals := 20 }
theorem ow_X7_init : Cond.methodLink RX7 3 Lib.objectInit ∈ wsX7_init ∧ Cond.instanceMethod Lib.objectInit ∈ wsX7_init ∧ Cond.code Lib.objectInit ⟨#[0xb1]⟩ 1 none ∈ wsX7_init := ⟨by decide +kernel, by decide +kernel, by decide +kernel⟩
theorem aw_X7_init_int : Cond.arrayClass .int ∈ wsX7_init := by decide +kernel
theorem ff_X7_init_9 : g_FldF wsX7_init RX7 9 7 0 (.array .int) := ⟨RX7, TX7, 6, tyX7, rfl, by decide +kernel, by decide, by decide +kernel, tyX7_ok, nmX7, rfl, by decide +kernel, rfl⟩
theorem ff_X7_init_15 : g_FldF wsX7_init RX7 15 7 1 (.array .int) := ⟨RX7, TX7, 6, tyX7, rfl, by decide +kernel, by decide, by decide +kernel, tyX7_ok, nmX7, rfl, by decide +kernel, rfl⟩
set_option maxHeartbeats 4000000 in
set_option maxRecDepth 100000 in
theorem w_m_X7_init_3 {M : g_M} {E : g_E} {T : Nat → g_Sh} {Qf : g_St → State → Prop} (C : g_C (M, E, (0, 0, 4, T), 1, Qf) cX7_init RX7 wsX7_init rm_m_X7_init_3 1) (q : g_qN (M, E, (0, 0, 4, T), 1, Qf) 6 (g_upT T 3 6) 2 12) (hT : g_has 4 T 3 (.inl (7, [some none, some none, none, none, none, none]))) (σ : g_St) : G (M, E, (0, 0, 4, T), 1, Qf) 0 [(0, .ref (E.2.1 + 3))] [] σ (m_X7_init_3 σ) := by
  have B := g_B_0 hT rfl
  unfold m_X7_init_3
  refine G_aload_n (g_C_at C _ _ _ _ rfl) dX7_init_0 rfl 0 rfl ?_
  refine G_objInit (g_C_at C _ _ _ _ rfl) ow_X7_init rfl dX7_init_1 ?_
  refine G_aload_n (g_C_at C _ _ _ _ rfl) dX7_init_4 rfl 0 rfl ?_
  refine G_bipush (g_C_at C _ _ _ _ rfl) dX7_init_5 (v := 8) (by decide +kernel) ?_
  refine G_newI (g_C_at C _ _ _ _ rfl) aw_X7_init_int (N := 8) (by decide +kernel) rfl dX7_init_7 ?_
  have B := g_B_arr B (s := .inr (.inl 8)) rfl
  refine G_lts (fun σ1 => ?_)
  refine G_putF (g_C_at C _ _ _ _ rfl) q.2.2.1 (r := 4) ff_X7_init_9 (g_B_has B) (by decide) rfl rfl rfl dX7_init_9 ?_
  have B := g_B_put B (.inl (7, [some (some 4), some none, none, none, none, none]))
  refine G_aload_n (g_C_at C _ _ _ _ rfl) dX7_init_12 rfl 0 rfl ?_
  refine G_iconst (g_C_at C _ _ _ _ rfl) dX7_init_13 (v := 4) (by decide +kernel) ?_
  refine G_newI (g_C_at C _ _ _ _ rfl) aw_X7_init_int (N := 4) (by decide +kernel) rfl dX7_init_14 ?_
  have B := g_B_arr B (s := .inr (.inl 4)) rfl
  refine G_lts (fun σ2 => ?_)
  refine G_putF (g_C_at C _ _ _ _ rfl) q.2.2.1 (r := 5) ff_X7_init_15 (g_B_has B) (by decide) rfl rfl rfl dX7_init_16 ?_
  have B := g_B_put B (.inl (7, [some (some 4), some (some 5), none, none, none, none]))
  refine G_aload_n (g_C_at C _ _ _ _ rfl) dX7_init_19 rfl 0 rfl ?_
  refine G_callV (rest := []) (fun a ha => g_runV (g_C_at C _ _ _ _ rfl) (nargs := 0) (As := []) (rest := []) gX7_init_X7_setUntold rfl (by decide +kernel) rfl (g_B_has B) rfl rfl rfl rfl dX7_init_20 (k_m_X7_setUntold_3 _ _ _ _ (g_B_ag B rfl (by decide +kernel)) σ2 a ha)) (fun σ3 => ?_)
  exact G_vretN (g_C_at C _ _ _ _ rfl) q (g_B_end B rfl) dX7_init_23
theorem k_m_X7_init_3 (l : Launch) (E : g_E) (T : Nat → g_Sh) (hT : g_has 4 T 3 (.inl (7, [some none, some none, none, none, none, none]))) (σ : g_St) (a : g_St) (h : m_X7_init_3 σ = some a) : Met l yX7_init wsX7_init rm_m_X7_init_3 (va_Pc [.ref (E.2.1 + 3)] (fun U => g_Wd E 4 T σ U.heap ∧ g_K E U ∧ (fun _ => True) U)) (g_Qv E 6 (g_upT T 3 6) a) 2 12 (g_A E) :=
  g_metN (by decide +kernel) rfl rfl rfl (Nat.le_of_ble_eq_true rfl) (fun M Qf C q hPx => by rw [← h]; exact w_m_X7_init_3 C q hT σ)
/-! m_X4_init_6 -/
abbrev rm_m_X4_init_6 : Room := { frames := 1, cells := 5, slots := 36, locals := 13 }
theorem ow_X4_init : Cond.methodLink RX4 3 Lib.objectInit ∈ wsX4_init ∧ Cond.instanceMethod Lib.objectInit ∈ wsX4_init ∧ Cond.code Lib.objectInit ⟨#[0xb1]⟩ 1 none ∈ wsX4_init := ⟨by decide +kernel, by decide +kernel, by decide +kernel⟩
theorem aw_X4_init_int : Cond.arrayClass .int ∈ wsX4_init := by decide +kernel
theorem ff_X4_init_9 : g_FldF wsX4_init RX4 9 4 0 (.array .int) := ⟨RX4, TX4, 8, tyX4, rfl, by decide +kernel, by decide, by decide +kernel, tyX4_ok, nmX4, rfl, by decide +kernel, rfl⟩
theorem ff_X4_init_15 : g_FldF wsX4_init RX4 15 4 1 (.array .int) := ⟨RX4, TX4, 8, tyX4, rfl, by decide +kernel, by decide, by decide +kernel, tyX4_ok, nmX4, rfl, by decide +kernel, rfl⟩
theorem ff_X4_init_18 : g_FldF wsX4_init RX4 18 4 2 (.array .int) := ⟨RX4, TX4, 8, tyX4, rfl, by decide +kernel, by decide, by decide +kernel, tyX4_ok, nmX4, rfl, by decide +kernel, rfl⟩
theorem ff_X4_init_21 : g_FldF wsX4_init RX4 21 4 3 (.array .int) := ⟨RX4, TX4, 8, tyX4, rfl, by decide +kernel, by decide, by decide +kernel, tyX4_ok, nmX4, rfl, by decide +kernel, rfl⟩
theorem ff_X4_init_24 : g_FldF wsX4_init RX4 24 4 4 (.array .int) := ⟨RX4, TX4, 8, tyX4, rfl, by decide +kernel, by decide, by decide +kernel, tyX4_ok, nmX4, rfl, by decide +kernel, rfl⟩
theorem p_X4_init_27 : g_FldP wsX4_init RX4 27 4 5 .int := ⟨RX4, TX4, 8, tyX4, rfl, by decide +kernel, by decide, by decide +kernel, tyX4_ok, nmX4, rfl, by decide +kernel⟩
theorem p_X4_init_31 : g_FldP wsX4_init RX4 31 4 6 .int := ⟨RX4, TX4, 8, tyX4, rfl, by decide +kernel, by decide, by decide +kernel, tyX4_ok, nmX4, rfl, by decide +kernel⟩
theorem p_X4_init_34 : g_FldP wsX4_init RX4 34 4 7 .int := ⟨RX4, TX4, 8, tyX4, rfl, by decide +kernel, by decide, by decide +kernel, tyX4_ok, nmX4, rfl, by decide +kernel⟩
set_option maxHeartbeats 4000000 in
set_option maxRecDepth 100000 in
theorem w_m_X4_init_6 {M : g_M} {E : g_E} {T : Nat → g_Sh} {Qf : g_St → State → Prop} (C : g_C (M, E, (0, 0, 7, T), 1, Qf) cX4_init RX4 wsX4_init rm_m_X4_init_6 1) (q : g_qN (M, E, (0, 0, 7, T), 1, Qf) 12 (g_upT T 6 12) 5 36) (hT : g_has 7 T 6 (.inl (4, [some none, some none, some none, some none, some none, none, none, none]))) (σ : g_St) : G (M, E, (0, 0, 7, T), 1, Qf) 0 [(0, .ref (E.2.1 + 6))] [] σ (m_X4_init_6 σ) := by
  have B := g_B_0 hT rfl
  unfold m_X4_init_6
  refine G_aload_n (g_C_at C _ _ _ _ rfl) dX4_init_0 rfl 0 rfl ?_
  refine G_objInit (g_C_at C _ _ _ _ rfl) ow_X4_init rfl dX4_init_1 ?_
  refine G_aload_n (g_C_at C _ _ _ _ rfl) dX4_init_4 rfl 0 rfl ?_
  refine G_bipush (g_C_at C _ _ _ _ rfl) dX4_init_5 (v := 6) (by decide +kernel) ?_
  refine G_newI (g_C_at C _ _ _ _ rfl) aw_X4_init_int (N := 6) (by decide +kernel) rfl dX4_init_7 ?_
  have B := g_B_arr B (s := .inr (.inl 6)) rfl
  refine G_lts (fun σ1 => ?_)
  refine G_putF (g_C_at C _ _ _ _ rfl) q.2.2.1 (r := 7) ff_X4_init_9 (g_B_has B) (by decide) rfl rfl rfl dX4_init_9 ?_
  have B := g_B_put B (.inl (4, [some (some 7), some none, some none, some none, some none, none, none, none]))
  refine G_aload_n (g_C_at C _ _ _ _ rfl) dX4_init_12 rfl 0 rfl ?_
  refine G_bipush (g_C_at C _ _ _ _ rfl) dX4_init_13 (v := 6) (by decide +kernel) ?_
  refine G_newI (g_C_at C _ _ _ _ rfl) aw_X4_init_int (N := 6) (by decide +kernel) rfl dX4_init_15 ?_
  have B := g_B_arr B (s := .inr (.inl 6)) rfl
  refine G_lts (fun σ2 => ?_)
  refine G_putF (g_C_at C _ _ _ _ rfl) q.2.2.1 (r := 8) ff_X4_init_15 (g_B_has B) (by decide) rfl rfl rfl dX4_init_17 ?_
  have B := g_B_put B (.inl (4, [some (some 7), some (some 8), some none, some none, some none, none, none, none]))
  refine G_aload_n (g_C_at C _ _ _ _ rfl) dX4_init_20 rfl 0 rfl ?_
  refine G_bipush (g_C_at C _ _ _ _ rfl) dX4_init_21 (v := 8) (by decide +kernel) ?_
  refine G_newI (g_C_at C _ _ _ _ rfl) aw_X4_init_int (N := 8) (by decide +kernel) rfl dX4_init_23 ?_
  have B := g_B_arr B (s := .inr (.inl 8)) rfl
  refine G_lts (fun σ3 => ?_)
  refine G_putF (g_C_at C _ _ _ _ rfl) q.2.2.1 (r := 9) ff_X4_init_18 (g_B_has B) (by decide) rfl rfl rfl dX4_init_25 ?_
  have B := g_B_put B (.inl (4, [some (some 7), some (some 8), some (some 9), some none, some none, none, none, none]))
  refine G_aload_n (g_C_at C _ _ _ _ rfl) dX4_init_28 rfl 0 rfl ?_
  refine G_bipush (g_C_at C _ _ _ _ rfl) dX4_init_29 (v := 8) (by decide +kernel) ?_
  refine G_newI (g_C_at C _ _ _ _ rfl) aw_X4_init_int (N := 8) (by decide +kernel) rfl dX4_init_31 ?_
  have B := g_B_arr B (s := .inr (.inl 8)) rfl
  refine G_lts (fun σ4 => ?_)
  refine G_putF (g_C_at C _ _ _ _ rfl) q.2.2.1 (r := 10) ff_X4_init_21 (g_B_has B) (by decide) rfl rfl rfl dX4_init_33 ?_
  have B := g_B_put B (.inl (4, [some (some 7), some (some 8), some (some 9), some (some 10), some none, none, none, none]))
  refine G_aload_n (g_C_at C _ _ _ _ rfl) dX4_init_36 rfl 0 rfl ?_
  refine G_bipush (g_C_at C _ _ _ _ rfl) dX4_init_37 (v := 8) (by decide +kernel) ?_
  refine G_newI (g_C_at C _ _ _ _ rfl) aw_X4_init_int (N := 8) (by decide +kernel) rfl dX4_init_39 ?_
  have B := g_B_arr B (s := .inr (.inl 8)) rfl
  refine G_lts (fun σ5 => ?_)
  refine G_putF (g_C_at C _ _ _ _ rfl) q.2.2.1 (r := 11) ff_X4_init_24 (g_B_has B) (by decide) rfl rfl rfl dX4_init_41 ?_
  have B := g_B_put B (.inl (4, [some (some 7), some (some 8), some (some 9), some (some 10), some (some 11), none, none, none]))
  refine G_aload_n (g_C_at C _ _ _ _ rfl) dX4_init_44 rfl 0 rfl ?_
  refine G_iconst (g_C_at C _ _ _ _ rfl) dX4_init_45 (v := 0) (by decide +kernel) ?_
  refine G_putI (g_C_at C _ _ _ _ rfl) p_X4_init_27 (g_B_has B) rfl rfl rfl dX4_init_46 ?_
  refine G_lts (fun σ6 => ?_)
  refine G_aload_n (g_C_at C _ _ _ _ rfl) dX4_init_49 rfl 0 rfl ?_
  refine G_iconst (g_C_at C _ _ _ _ rfl) dX4_init_50 (v := 0) (by decide +kernel) ?_
  refine G_putI (g_C_at C _ _ _ _ rfl) p_X4_init_31 (g_B_has B) rfl rfl rfl dX4_init_51 ?_
  refine G_lts (fun σ7 => ?_)
  refine G_aload_n (g_C_at C _ _ _ _ rfl) dX4_init_54 rfl 0 rfl ?_
  refine G_iconst (g_C_at C _ _ _ _ rfl) dX4_init_55 (v := 0) (by decide +kernel) ?_
  refine G_putI (g_C_at C _ _ _ _ rfl) p_X4_init_34 (g_B_has B) rfl rfl rfl dX4_init_56 ?_
  refine G_lts (fun σ8 => ?_)
  exact G_vretN (g_C_at C _ _ _ _ rfl) q (g_B_end B rfl) dX4_init_59
theorem k_m_X4_init_6 (l : Launch) (E : g_E) (T : Nat → g_Sh) (hT : g_has 7 T 6 (.inl (4, [some none, some none, some none, some none, some none, none, none, none]))) (σ : g_St) (a : g_St) (h : m_X4_init_6 σ = some a) : Met l yX4_init wsX4_init rm_m_X4_init_6 (va_Pc [.ref (E.2.1 + 6)] (fun U => g_Wd E 7 T σ U.heap ∧ g_K E U ∧ (fun _ => True) U)) (g_Qv E 12 (g_upT T 6 12) a) 5 36 (g_A E) :=
  g_metN (by decide +kernel) rfl rfl rfl (Nat.le_of_ble_eq_true rfl) (fun M Qf C q hPx => by rw [← h]; exact w_m_X4_init_6 C q hT σ)
/-! m_X6_init_2 -/
abbrev rm_m_X6_init_2 : Room := { frames := 2, cells := 10, slots := 66, locals := 43 }
theorem ow_X6_init : Cond.methodLink RX6 3 Lib.objectInit ∈ wsX6_init ∧ Cond.instanceMethod Lib.objectInit ∈ wsX6_init ∧ Cond.code Lib.objectInit ⟨#[0xb1]⟩ 1 none ∈ wsX6_init := ⟨by decide +kernel, by decide +kernel, by decide +kernel⟩
theorem cw_X6_init_9 : g_Cls wsX6_init RX6 9 7 6 [some none, some none, none, none, none, none] := ⟨RX7, TX7, tyX7, rfl, by decide +kernel, tyX7_ok, by decide +kernel, by decide +kernel, by decide +kernel, g_dvX7⟩
theorem iw_X6_init_11 : Cond.initialized (MethodName.cls yX7_init) ∈ wsX6_init ∧ Cond.methodLink RX6 11 yX7_init ∈ wsX6_init ∧ Cond.instanceMethod yX7_init ∈ wsX6_init := ⟨by decide +kernel, by decide +kernel, by decide +kernel⟩
theorem ff_X6_init_12 : g_FldF wsX6_init RX6 12 6 0 (.object "BirthdayLot$Rules") := ⟨RX6, TX6, 12, tyX6, rfl, by decide +kernel, by decide, by decide +kernel, tyX6_ok, nmX6, rfl, by decide +kernel, rfl⟩
theorem cw_X6_init_18 : g_Cls wsX6_init RX6 18 4 8 [some none, some none, some none, some none, some none, none, none, none] := ⟨RX4, TX4, tyX4, rfl, by decide +kernel, tyX4_ok, by decide +kernel, by decide +kernel, by decide +kernel, g_dvX4⟩
theorem iw_X6_init_20 : Cond.initialized (MethodName.cls yX4_init) ∈ wsX6_init ∧ Cond.methodLink RX6 20 yX4_init ∈ wsX6_init ∧ Cond.instanceMethod yX4_init ∈ wsX6_init := ⟨by decide +kernel, by decide +kernel, by decide +kernel⟩
theorem ff_X6_init_21 : g_FldF wsX6_init RX6 21 6 1 (.object "BirthdayLot$Moment") := ⟨RX6, TX6, 12, tyX6, rfl, by decide +kernel, by decide, by decide +kernel, tyX6_ok, nmX6, rfl, by decide +kernel, rfl⟩
theorem aw_X6_init_int : Cond.arrayClass .int ∈ wsX6_init := by decide +kernel
theorem ff_X6_init_25 : g_FldF wsX6_init RX6 25 6 2 (.array .int) := ⟨RX6, TX6, 12, tyX6, rfl, by decide +kernel, by decide, by decide +kernel, tyX6_ok, nmX6, rfl, by decide +kernel, rfl⟩
set_option maxHeartbeats 4000000 in
set_option maxRecDepth 100000 in
theorem w_m_X6_init_2 {M : g_M} {E : g_E} {T : Nat → g_Sh} {Qf : g_St → State → Prop} (C : g_C (M, E, (0, 0, 3, T), 1, Qf) cX6_init RX6 wsX6_init rm_m_X6_init_2 1) (q : g_qN (M, E, (0, 0, 3, T), 1, Qf) 13 (g_upT T 2 13) 10 66) (hT : g_has 3 T 2 (.inl (6, [some none, some none, some none, none, none, none, none, none, none, none, none, none]))) (N : Nat) (σ : g_St) : G (M, E, (0, 0, 3, T), 1, Qf) 0 [(0, .ref (E.2.1 + 2))] [] σ (m_X6_init_2 N σ) := by
  have B := g_B_0 hT rfl
  unfold m_X6_init_2
  refine G_aload_n (g_C_at C _ _ _ _ rfl) dX6_init_0 rfl 0 rfl ?_
  refine G_objInit (g_C_at C _ _ _ _ rfl) ow_X6_init rfl dX6_init_1 ?_
  refine G_aload_n (g_C_at C _ _ _ _ rfl) dX6_init_4 rfl 0 rfl ?_
  refine G_new (g_C_at C _ _ _ _ rfl) cw_X6_init_9 rfl dX6_init_5 ?_
  refine G_lts (fun σ1 => ?_)
  refine G_dup (g_C_at C _ _ _ _ rfl) dX6_init_8 rfl ?_
  refine G_callN (g_C_at C _ _ _ _ rfl) (nargs := 0) (As := []) (rest := [.ref (E.2.1 + 3), .ref (E.2.1 + 2)]) (c := 3) (mc := 2) (ms := 12) (n1 := 6) gX6_init_X7_init rfl iw_X6_init_11 rfl (by decide +kernel) rfl rfl rfl dX6_init_9 (Px := fun _ => True) (fun _ _ => trivial) (fun _ _ _ _ _ => trivial) (fun a ha => k_m_X7_init_3 M.2.1 E _ g_has_new σ1 a ha) (fun σ2 => ?_)
  have B := g_B_sub B (s := .inl (7, [some none, some none, none, none, none, none])) (n1 := 6) (by decide)
  refine G_putF (g_C_at C _ _ _ _ rfl) q.2.2.1 (r := 3) ff_X6_init_12 (g_B_has B) (by decide) rfl rfl rfl dX6_init_12 ?_
  have B := g_B_put B (.inl (6, [some (some 3), some none, some none, none, none, none, none, none, none, none, none, none]))
  refine G_aload_n (g_C_at C _ _ _ _ rfl) dX6_init_15 rfl 0 rfl ?_
  refine G_new (g_C_at C _ _ _ _ rfl) cw_X6_init_18 rfl dX6_init_16 ?_
  refine G_lts (fun σ3 => ?_)
  refine G_dup (g_C_at C _ _ _ _ rfl) dX6_init_19 rfl ?_
  refine G_callN (g_C_at C _ _ _ _ rfl) (nargs := 0) (As := []) (rest := [.ref (E.2.1 + 6), .ref (E.2.1 + 2)]) (c := 6) (mc := 5) (ms := 36) (n1 := 12) gX6_init_X4_init rfl iw_X6_init_20 rfl (by decide +kernel) rfl rfl rfl dX6_init_20 (Px := fun _ => True) (fun _ _ => trivial) (fun _ _ _ _ _ => trivial) (fun a ha => k_m_X4_init_6 M.2.1 E _ g_has_new σ3 a ha) (fun σ4 => ?_)
  have B := g_B_sub B (s := .inl (4, [some none, some none, some none, some none, some none, none, none, none])) (n1 := 12) (by decide)
  refine G_putF (g_C_at C _ _ _ _ rfl) q.2.2.1 (r := 6) ff_X6_init_21 (g_B_has B) (by decide) rfl rfl rfl dX6_init_23 ?_
  have B := g_B_put B (.inl (6, [some (some 3), some (some 6), some none, none, none, none, none, none, none, none, none, none]))
  refine G_aload_n (g_C_at C _ _ _ _ rfl) dX6_init_26 rfl 0 rfl ?_
  refine G_iconst (g_C_at C _ _ _ _ rfl) dX6_init_27 (v := 4) (by decide +kernel) ?_
  refine G_newI (g_C_at C _ _ _ _ rfl) aw_X6_init_int (N := 4) (by decide +kernel) rfl dX6_init_28 ?_
  have B := g_B_arr B (s := .inr (.inl 4)) rfl
  refine G_lts (fun σ5 => ?_)
  refine G_putF (g_C_at C _ _ _ _ rfl) q.2.2.1 (r := 12) ff_X6_init_25 (g_B_has B) (by decide) rfl rfl rfl dX6_init_30 ?_
  have B := g_B_put B (.inl (6, [some (some 3), some (some 6), some (some 12), none, none, none, none, none, none, none, none, none]))
  refine G_aload_n (g_C_at C _ _ _ _ rfl) dX6_init_33 rfl 0 rfl ?_
  refine G_callV (rest := []) (fun a ha => g_runV (g_C_at C _ _ _ _ rfl) (nargs := 0) (As := []) (rest := []) gX6_init_X6_begin rfl (by decide +kernel) rfl (g_B_has B) rfl rfl rfl rfl dX6_init_34 (k_m_X6_begin _ _ _ _ (g_B_ag B rfl (by decide +kernel)) N σ5 a ha)) (fun σ6 => ?_)
  exact G_vretN (g_C_at C _ _ _ _ rfl) q (g_B_end B rfl) dX6_init_37
theorem k_m_X6_init_2 (l : Launch) (E : g_E) (T : Nat → g_Sh) (hT : g_has 3 T 2 (.inl (6, [some none, some none, some none, none, none, none, none, none, none, none, none, none]))) (N : Nat) (σ : g_St) (a : g_St) (h : m_X6_init_2 N σ = some a) : Met l yX6_init wsX6_init rm_m_X6_init_2 (va_Pc [.ref (E.2.1 + 2)] (fun U => g_Wd E 3 T σ U.heap ∧ g_K E U ∧ (fun _ => True) U)) (g_Qv E 13 (g_upT T 2 13) a) 10 66 (g_A E) :=
  g_metN (by decide +kernel) rfl rfl rfl (Nat.le_of_ble_eq_true rfl) (fun M Qf C q hPx => by rw [← h]; exact w_m_X6_init_2 C q hT N σ)
/-! m_X7_init_13 -/
abbrev rm_m_X7_init_13 : Room := { frames := 1, cells := 2, slots := 12, locals := 20 }
set_option maxHeartbeats 4000000 in
set_option maxRecDepth 100000 in
theorem w_m_X7_init_13 {M : g_M} {E : g_E} {T : Nat → g_Sh} {Qf : g_St → State → Prop} (C : g_C (M, E, (0, 0, 14, T), 1, Qf) cX7_init RX7 wsX7_init rm_m_X7_init_13 1) (q : g_qN (M, E, (0, 0, 14, T), 1, Qf) 16 (g_upT T 13 16) 2 12) (hT : g_has 14 T 13 (.inl (7, [some none, some none, none, none, none, none]))) (σ : g_St) : G (M, E, (0, 0, 14, T), 1, Qf) 0 [(0, .ref (E.2.1 + 13))] [] σ (m_X7_init_13 σ) := by
  have B := g_B_0 hT rfl
  unfold m_X7_init_13
  refine G_aload_n (g_C_at C _ _ _ _ rfl) dX7_init_0 rfl 0 rfl ?_
  refine G_objInit (g_C_at C _ _ _ _ rfl) ow_X7_init rfl dX7_init_1 ?_
  refine G_aload_n (g_C_at C _ _ _ _ rfl) dX7_init_4 rfl 0 rfl ?_
  refine G_bipush (g_C_at C _ _ _ _ rfl) dX7_init_5 (v := 8) (by decide +kernel) ?_
  refine G_newI (g_C_at C _ _ _ _ rfl) aw_X7_init_int (N := 8) (by decide +kernel) rfl dX7_init_7 ?_
  have B := g_B_arr B (s := .inr (.inl 8)) rfl
  refine G_lts (fun σ1 => ?_)
  refine G_putF (g_C_at C _ _ _ _ rfl) q.2.2.1 (r := 14) ff_X7_init_9 (g_B_has B) (by decide) rfl rfl rfl dX7_init_9 ?_
  have B := g_B_put B (.inl (7, [some (some 14), some none, none, none, none, none]))
  refine G_aload_n (g_C_at C _ _ _ _ rfl) dX7_init_12 rfl 0 rfl ?_
  refine G_iconst (g_C_at C _ _ _ _ rfl) dX7_init_13 (v := 4) (by decide +kernel) ?_
  refine G_newI (g_C_at C _ _ _ _ rfl) aw_X7_init_int (N := 4) (by decide +kernel) rfl dX7_init_14 ?_
  have B := g_B_arr B (s := .inr (.inl 4)) rfl
  refine G_lts (fun σ2 => ?_)
  refine G_putF (g_C_at C _ _ _ _ rfl) q.2.2.1 (r := 15) ff_X7_init_15 (g_B_has B) (by decide) rfl rfl rfl dX7_init_16 ?_
  have B := g_B_put B (.inl (7, [some (some 14), some (some 15), none, none, none, none]))
  refine G_aload_n (g_C_at C _ _ _ _ rfl) dX7_init_19 rfl 0 rfl ?_
  refine G_callV (rest := []) (fun a ha => g_runV (g_C_at C _ _ _ _ rfl) (nargs := 0) (As := []) (rest := []) gX7_init_X7_setUntold rfl (by decide +kernel) rfl (g_B_has B) rfl rfl rfl rfl dX7_init_20 (k_m_X7_setUntold _ _ _ _ (g_B_ag B rfl (by decide +kernel)) σ2 a ha)) (fun σ3 => ?_)
  exact G_vretN (g_C_at C _ _ _ _ rfl) q (g_B_end B rfl) dX7_init_23
theorem k_m_X7_init_13 (l : Launch) (E : g_E) (T : Nat → g_Sh) (hT : g_has 14 T 13 (.inl (7, [some none, some none, none, none, none, none]))) (σ : g_St) (a : g_St) (h : m_X7_init_13 σ = some a) : Met l yX7_init wsX7_init rm_m_X7_init_13 (va_Pc [.ref (E.2.1 + 13)] (fun U => g_Wd E 14 T σ U.heap ∧ g_K E U ∧ (fun _ => True) U)) (g_Qv E 16 (g_upT T 13 16) a) 2 12 (g_A E) :=
  g_metN (by decide +kernel) rfl rfl rfl (Nat.le_of_ble_eq_true rfl) (fun M Qf C q hPx => by rw [← h]; exact w_m_X7_init_13 C q hT σ)
/-! m_X4_init_16 -/
abbrev rm_m_X4_init_16 : Room := { frames := 1, cells := 5, slots := 36, locals := 13 }
set_option maxHeartbeats 4000000 in
set_option maxRecDepth 100000 in
theorem w_m_X4_init_16 {M : g_M} {E : g_E} {T : Nat → g_Sh} {Qf : g_St → State → Prop} (C : g_C (M, E, (0, 0, 17, T), 1, Qf) cX4_init RX4 wsX4_init rm_m_X4_init_16 1) (q : g_qN (M, E, (0, 0, 17, T), 1, Qf) 22 (g_upT T 16 22) 5 36) (hT : g_has 17 T 16 (.inl (4, [some none, some none, some none, some none, some none, none, none, none]))) (σ : g_St) : G (M, E, (0, 0, 17, T), 1, Qf) 0 [(0, .ref (E.2.1 + 16))] [] σ (m_X4_init_16 σ) := by
  have B := g_B_0 hT rfl
  unfold m_X4_init_16
  refine G_aload_n (g_C_at C _ _ _ _ rfl) dX4_init_0 rfl 0 rfl ?_
  refine G_objInit (g_C_at C _ _ _ _ rfl) ow_X4_init rfl dX4_init_1 ?_
  refine G_aload_n (g_C_at C _ _ _ _ rfl) dX4_init_4 rfl 0 rfl ?_
  refine G_bipush (g_C_at C _ _ _ _ rfl) dX4_init_5 (v := 6) (by decide +kernel) ?_
  refine G_newI (g_C_at C _ _ _ _ rfl) aw_X4_init_int (N := 6) (by decide +kernel) rfl dX4_init_7 ?_
  have B := g_B_arr B (s := .inr (.inl 6)) rfl
  refine G_lts (fun σ1 => ?_)
  refine G_putF (g_C_at C _ _ _ _ rfl) q.2.2.1 (r := 17) ff_X4_init_9 (g_B_has B) (by decide) rfl rfl rfl dX4_init_9 ?_
  have B := g_B_put B (.inl (4, [some (some 17), some none, some none, some none, some none, none, none, none]))
  refine G_aload_n (g_C_at C _ _ _ _ rfl) dX4_init_12 rfl 0 rfl ?_
  refine G_bipush (g_C_at C _ _ _ _ rfl) dX4_init_13 (v := 6) (by decide +kernel) ?_
  refine G_newI (g_C_at C _ _ _ _ rfl) aw_X4_init_int (N := 6) (by decide +kernel) rfl dX4_init_15 ?_
  have B := g_B_arr B (s := .inr (.inl 6)) rfl
  refine G_lts (fun σ2 => ?_)
  refine G_putF (g_C_at C _ _ _ _ rfl) q.2.2.1 (r := 18) ff_X4_init_15 (g_B_has B) (by decide) rfl rfl rfl dX4_init_17 ?_
  have B := g_B_put B (.inl (4, [some (some 17), some (some 18), some none, some none, some none, none, none, none]))
  refine G_aload_n (g_C_at C _ _ _ _ rfl) dX4_init_20 rfl 0 rfl ?_
  refine G_bipush (g_C_at C _ _ _ _ rfl) dX4_init_21 (v := 8) (by decide +kernel) ?_
  refine G_newI (g_C_at C _ _ _ _ rfl) aw_X4_init_int (N := 8) (by decide +kernel) rfl dX4_init_23 ?_
  have B := g_B_arr B (s := .inr (.inl 8)) rfl
  refine G_lts (fun σ3 => ?_)
  refine G_putF (g_C_at C _ _ _ _ rfl) q.2.2.1 (r := 19) ff_X4_init_18 (g_B_has B) (by decide) rfl rfl rfl dX4_init_25 ?_
  have B := g_B_put B (.inl (4, [some (some 17), some (some 18), some (some 19), some none, some none, none, none, none]))
  refine G_aload_n (g_C_at C _ _ _ _ rfl) dX4_init_28 rfl 0 rfl ?_
  refine G_bipush (g_C_at C _ _ _ _ rfl) dX4_init_29 (v := 8) (by decide +kernel) ?_
  refine G_newI (g_C_at C _ _ _ _ rfl) aw_X4_init_int (N := 8) (by decide +kernel) rfl dX4_init_31 ?_
  have B := g_B_arr B (s := .inr (.inl 8)) rfl
  refine G_lts (fun σ4 => ?_)
  refine G_putF (g_C_at C _ _ _ _ rfl) q.2.2.1 (r := 20) ff_X4_init_21 (g_B_has B) (by decide) rfl rfl rfl dX4_init_33 ?_
  have B := g_B_put B (.inl (4, [some (some 17), some (some 18), some (some 19), some (some 20), some none, none, none, none]))
  refine G_aload_n (g_C_at C _ _ _ _ rfl) dX4_init_36 rfl 0 rfl ?_
  refine G_bipush (g_C_at C _ _ _ _ rfl) dX4_init_37 (v := 8) (by decide +kernel) ?_
  refine G_newI (g_C_at C _ _ _ _ rfl) aw_X4_init_int (N := 8) (by decide +kernel) rfl dX4_init_39 ?_
  have B := g_B_arr B (s := .inr (.inl 8)) rfl
  refine G_lts (fun σ5 => ?_)
  refine G_putF (g_C_at C _ _ _ _ rfl) q.2.2.1 (r := 21) ff_X4_init_24 (g_B_has B) (by decide) rfl rfl rfl dX4_init_41 ?_
  have B := g_B_put B (.inl (4, [some (some 17), some (some 18), some (some 19), some (some 20), some (some 21), none, none, none]))
  refine G_aload_n (g_C_at C _ _ _ _ rfl) dX4_init_44 rfl 0 rfl ?_
  refine G_iconst (g_C_at C _ _ _ _ rfl) dX4_init_45 (v := 0) (by decide +kernel) ?_
  refine G_putI (g_C_at C _ _ _ _ rfl) p_X4_init_27 (g_B_has B) rfl rfl rfl dX4_init_46 ?_
  refine G_lts (fun σ6 => ?_)
  refine G_aload_n (g_C_at C _ _ _ _ rfl) dX4_init_49 rfl 0 rfl ?_
  refine G_iconst (g_C_at C _ _ _ _ rfl) dX4_init_50 (v := 0) (by decide +kernel) ?_
  refine G_putI (g_C_at C _ _ _ _ rfl) p_X4_init_31 (g_B_has B) rfl rfl rfl dX4_init_51 ?_
  refine G_lts (fun σ7 => ?_)
  refine G_aload_n (g_C_at C _ _ _ _ rfl) dX4_init_54 rfl 0 rfl ?_
  refine G_iconst (g_C_at C _ _ _ _ rfl) dX4_init_55 (v := 0) (by decide +kernel) ?_
  refine G_putI (g_C_at C _ _ _ _ rfl) p_X4_init_34 (g_B_has B) rfl rfl rfl dX4_init_56 ?_
  refine G_lts (fun σ8 => ?_)
  exact G_vretN (g_C_at C _ _ _ _ rfl) q (g_B_end B rfl) dX4_init_59
theorem k_m_X4_init_16 (l : Launch) (E : g_E) (T : Nat → g_Sh) (hT : g_has 17 T 16 (.inl (4, [some none, some none, some none, some none, some none, none, none, none]))) (σ : g_St) (a : g_St) (h : m_X4_init_16 σ = some a) : Met l yX4_init wsX4_init rm_m_X4_init_16 (va_Pc [.ref (E.2.1 + 16)] (fun U => g_Wd E 17 T σ U.heap ∧ g_K E U ∧ (fun _ => True) U)) (g_Qv E 22 (g_upT T 16 22) a) 5 36 (g_A E) :=
  g_metN (by decide +kernel) rfl rfl rfl (Nat.le_of_ble_eq_true rfl) (fun M Qf C q hPx => by rw [← h]; exact w_m_X4_init_16 C q hT σ)
/-! m_X5_init_22 -/
abbrev rm_m_X5_init_22 : Room := { frames := 1, cells := 31, slots := 1200, locals := 13 }
theorem ow_X5_init : Cond.methodLink RX5 3 Lib.objectInit ∈ wsX5_init ∧ Cond.instanceMethod Lib.objectInit ∈ wsX5_init ∧ Cond.code Lib.objectInit ⟨#[0xb1]⟩ 1 none ∈ wsX5_init := ⟨by decide +kernel, by decide +kernel, by decide +kernel⟩
theorem mw_X5_init : Cond.classLink RX5 11 "[[I" ∈ wsX5_init ∧ Cond.arrayClass .int ∈ wsX5_init := ⟨by decide +kernel, by decide +kernel⟩
theorem ff_X5_init_13 : g_FldF wsX5_init RX5 13 5 0 (.array (.array .int)) := ⟨RX5, TX5, 3, tyX5, rfl, by decide +kernel, by decide, by decide +kernel, tyX5_ok, nmX5, rfl, by decide +kernel, rfl⟩
theorem p_X5_init_18 : g_FldP wsX5_init RX5 18 5 1 .int := ⟨RX5, TX5, 3, tyX5, rfl, by decide +kernel, by decide, by decide +kernel, tyX5_ok, nmX5, rfl, by decide +kernel⟩
theorem p_X5_init_22 : g_FldP wsX5_init RX5 22 5 2 .int := ⟨RX5, TX5, 3, tyX5, rfl, by decide +kernel, by decide, by decide +kernel, tyX5_ok, nmX5, rfl, by decide +kernel⟩
set_option maxHeartbeats 4000000 in
set_option maxRecDepth 100000 in
theorem w_m_X5_init_22 {M : g_M} {E : g_E} {T : Nat → g_Sh} {Qf : g_St → State → Prop} (C : g_C (M, E, (0, 0, 23, T), 1, Qf) cX5_init RX5 wsX5_init rm_m_X5_init_22 1) (q : g_qN (M, E, (0, 0, 23, T), 1, Qf) 54 (g_upT T 22 54) 31 1200) (hT : g_has 23 T 22 (.inl (5, [some none, none, none]))) (hAO : g_AO M.2.2.2.2.1) (σ : g_St) : G (M, E, (0, 0, 23, T), 1, Qf) 0 [(0, .ref (E.2.1 + 22))] [] σ (m_X5_init_22 σ) := by
  have B := g_B_0 hT rfl
  unfold m_X5_init_22
  refine G_aload_n (g_C_at C _ _ _ _ rfl) dX5_init_0 rfl 0 rfl ?_
  refine G_objInit (g_C_at C _ _ _ _ rfl) ow_X5_init rfl dX5_init_1 ?_
  refine G_aload_n (g_C_at C _ _ _ _ rfl) dX5_init_4 rfl 0 rfl ?_
  refine G_bipush (g_C_at C _ _ _ _ rfl) dX5_init_5 (v := 30) (by decide +kernel) ?_
  refine G_bipush (g_C_at C _ _ _ _ rfl) dX5_init_7 (v := 39) (by decide +kernel) ?_
  refine G_mna (g_C_at C _ _ _ _ rfl) hAO mw_X5_init (N := 30) (K := 39) (by decide +kernel) rfl rfl (by decide +kernel) dX5_init_9 ?_
  have B := g_B_mna B (n1 := 54) (by decide)
  refine G_lts (fun σ1 => ?_)
  refine G_putF (g_C_at C _ _ _ _ rfl) q.2.2.1 (r := 23) ff_X5_init_13 (g_B_has B) (by decide) rfl rfl rfl dX5_init_13 ?_
  have B := g_B_put B (.inl (5, [some (some 23), none, none]))
  refine G_aload_n (g_C_at C _ _ _ _ rfl) dX5_init_16 rfl 0 rfl ?_
  refine G_iconst (g_C_at C _ _ _ _ rfl) dX5_init_17 (v := 0) (by decide +kernel) ?_
  refine G_putI (g_C_at C _ _ _ _ rfl) p_X5_init_18 (g_B_has B) rfl rfl rfl dX5_init_18 ?_
  refine G_lts (fun σ2 => ?_)
  refine G_aload_n (g_C_at C _ _ _ _ rfl) dX5_init_21 rfl 0 rfl ?_
  refine G_iconst (g_C_at C _ _ _ _ rfl) dX5_init_22 (v := 0) (by decide +kernel) ?_
  refine G_putI (g_C_at C _ _ _ _ rfl) p_X5_init_22 (g_B_has B) rfl rfl rfl dX5_init_23 ?_
  refine G_lts (fun σ3 => ?_)
  exact G_vretN (g_C_at C _ _ _ _ rfl) q (g_B_end B rfl) dX5_init_26
theorem k_m_X5_init_22 (l : Launch) (E : g_E) (T : Nat → g_Sh) (hT : g_has 23 T 22 (.inl (5, [some none, none, none]))) (σ : g_St) (a : g_St) (h : m_X5_init_22 σ = some a) : Met l yX5_init wsX5_init rm_m_X5_init_22 (va_Pc [.ref (E.2.1 + 22)] (fun U => g_Wd E 23 T σ U.heap ∧ g_K E U ∧ (g_AO) U)) (g_Qv E 54 (g_upT T 22 54) a) 31 1200 (g_A E) :=
  g_metN (by decide +kernel) rfl rfl rfl (Nat.le_of_ble_eq_true rfl) (fun M Qf C q hPx => by rw [← h]; exact w_m_X5_init_22 C q hT hPx σ)
/-! m_X3_init_54 -/
abbrev rm_m_X3_init_54 : Room := { frames := 1, cells := 4, slots := 82, locals := 13 }
theorem ow_X3_init : Cond.methodLink RX3 3 Lib.objectInit ∈ wsX3_init ∧ Cond.instanceMethod Lib.objectInit ∈ wsX3_init ∧ Cond.code Lib.objectInit ⟨#[0xb1]⟩ 1 none ∈ wsX3_init := ⟨by decide +kernel, by decide +kernel, by decide +kernel⟩
theorem mw_X3_init : Cond.classLink RX3 11 "[[I" ∈ wsX3_init ∧ Cond.arrayClass .int ∈ wsX3_init := ⟨by decide +kernel, by decide +kernel⟩
theorem ff_X3_init_13 : g_FldF wsX3_init RX3 13 3 0 (.array (.array .int)) := ⟨RX3, TX3, 3, tyX3, rfl, by decide +kernel, by decide, by decide +kernel, tyX3_ok, nmX3, rfl, by decide +kernel, rfl⟩
theorem aw_X3_init_int : Cond.arrayClass .int ∈ wsX3_init := by decide +kernel
theorem ff_X3_init_18 : g_FldF wsX3_init RX3 18 3 1 (.array .int) := ⟨RX3, TX3, 3, tyX3, rfl, by decide +kernel, by decide, by decide +kernel, tyX3_ok, nmX3, rfl, by decide +kernel, rfl⟩
theorem p_X3_init_22 : g_FldP wsX3_init RX3 22 3 2 .int := ⟨RX3, TX3, 3, tyX3, rfl, by decide +kernel, by decide, by decide +kernel, tyX3_ok, nmX3, rfl, by decide +kernel⟩
set_option maxHeartbeats 4000000 in
set_option maxRecDepth 100000 in
theorem w_m_X3_init_54 {M : g_M} {E : g_E} {T : Nat → g_Sh} {Qf : g_St → State → Prop} (C : g_C (M, E, (0, 0, 55, T), 1, Qf) cX3_init RX3 wsX3_init rm_m_X3_init_54 1) (q : g_qN (M, E, (0, 0, 55, T), 1, Qf) 59 (g_upT T 54 59) 4 82) (hT : g_has 55 T 54 (.inl (3, [some none, some none, none]))) (hAO : g_AO M.2.2.2.2.1) (σ : g_St) : G (M, E, (0, 0, 55, T), 1, Qf) 0 [(0, .ref (E.2.1 + 54))] [] σ (m_X3_init_54 σ) := by
  have B := g_B_0 hT rfl
  unfold m_X3_init_54
  refine G_aload_n (g_C_at C _ _ _ _ rfl) dX3_init_0 rfl 0 rfl ?_
  refine G_objInit (g_C_at C _ _ _ _ rfl) ow_X3_init rfl dX3_init_1 ?_
  refine G_aload_n (g_C_at C _ _ _ _ rfl) dX3_init_4 rfl 0 rfl ?_
  refine G_iconst (g_C_at C _ _ _ _ rfl) dX3_init_5 (v := 2) (by decide +kernel) ?_
  refine G_bipush (g_C_at C _ _ _ _ rfl) dX3_init_6 (v := 39) (by decide +kernel) ?_
  refine G_mna (g_C_at C _ _ _ _ rfl) hAO mw_X3_init (N := 2) (K := 39) (by decide +kernel) rfl rfl (by decide +kernel) dX3_init_8 ?_
  have B := g_B_mna B (n1 := 58) (by decide)
  refine G_lts (fun σ1 => ?_)
  refine G_putF (g_C_at C _ _ _ _ rfl) q.2.2.1 (r := 55) ff_X3_init_13 (g_B_has B) (by decide) rfl rfl rfl dX3_init_12 ?_
  have B := g_B_put B (.inl (3, [some (some 55), some none, none]))
  refine G_aload_n (g_C_at C _ _ _ _ rfl) dX3_init_15 rfl 0 rfl ?_
  refine G_iconst (g_C_at C _ _ _ _ rfl) dX3_init_16 (v := 2) (by decide +kernel) ?_
  refine G_newI (g_C_at C _ _ _ _ rfl) aw_X3_init_int (N := 2) (by decide +kernel) rfl dX3_init_17 ?_
  have B := g_B_arr B (s := .inr (.inl 2)) rfl
  refine G_lts (fun σ2 => ?_)
  refine G_putF (g_C_at C _ _ _ _ rfl) q.2.2.1 (r := 58) ff_X3_init_18 (g_B_has B) (by decide) rfl rfl rfl dX3_init_19 ?_
  have B := g_B_put B (.inl (3, [some (some 55), some (some 58), none]))
  refine G_aload_n (g_C_at C _ _ _ _ rfl) dX3_init_22 rfl 0 rfl ?_
  refine G_iconst (g_C_at C _ _ _ _ rfl) dX3_init_23 (v := 0) (by decide +kernel) ?_
  refine G_putI (g_C_at C _ _ _ _ rfl) p_X3_init_22 (g_B_has B) rfl rfl rfl dX3_init_24 ?_
  refine G_lts (fun σ3 => ?_)
  exact G_vretN (g_C_at C _ _ _ _ rfl) q (g_B_end B rfl) dX3_init_27
theorem k_m_X3_init_54 (l : Launch) (E : g_E) (T : Nat → g_Sh) (hT : g_has 55 T 54 (.inl (3, [some none, some none, none]))) (σ : g_St) (a : g_St) (h : m_X3_init_54 σ = some a) : Met l yX3_init wsX3_init rm_m_X3_init_54 (va_Pc [.ref (E.2.1 + 54)] (fun U => g_Wd E 55 T σ U.heap ∧ g_K E U ∧ (g_AO) U)) (g_Qv E 59 (g_upT T 54 59) a) 4 82 (g_A E) :=
  g_metN (by decide +kernel) rfl rfl rfl (Nat.le_of_ble_eq_true rfl) (fun M Qf C q hPx => by rw [← h]; exact w_m_X3_init_54 C q hT hPx σ)
/-! m_X2_init_59 -/
abbrev rm_m_X2_init_59 : Room := { frames := 1, cells := 3, slots := 335, locals := 13 }
theorem ow_X2_init : Cond.methodLink RX2 3 Lib.objectInit ∈ wsX2_init ∧ Cond.instanceMethod Lib.objectInit ∈ wsX2_init ∧ Cond.code Lib.objectInit ⟨#[0xb1]⟩ 1 none ∈ wsX2_init := ⟨by decide +kernel, by decide +kernel, by decide +kernel⟩
theorem aw_X2_init_long : Cond.arrayClass .long ∈ wsX2_init := by decide +kernel
theorem ff_X2_init_9 : g_FldF wsX2_init RX2 9 2 0 (.array .long) := ⟨RX2, TX2, 6, tyX2, rfl, by decide +kernel, by decide, by decide +kernel, tyX2_ok, nmX2, rfl, by decide +kernel, rfl⟩
theorem aw_X2_init_int : Cond.arrayClass .int ∈ wsX2_init := by decide +kernel
theorem ff_X2_init_15 : g_FldF wsX2_init RX2 15 2 1 (.array .int) := ⟨RX2, TX2, 6, tyX2, rfl, by decide +kernel, by decide, by decide +kernel, tyX2_ok, nmX2, rfl, by decide +kernel, rfl⟩
theorem ff_X2_init_19 : g_FldF wsX2_init RX2 19 2 2 (.array .long) := ⟨RX2, TX2, 6, tyX2, rfl, by decide +kernel, by decide, by decide +kernel, tyX2_ok, nmX2, rfl, by decide +kernel, rfl⟩
theorem p_X2_init_22 : g_FldP wsX2_init RX2 22 2 3 .int := ⟨RX2, TX2, 6, tyX2, rfl, by decide +kernel, by decide, by decide +kernel, tyX2_ok, nmX2, rfl, by decide +kernel⟩
theorem p_X2_init_26 : g_FldP wsX2_init RX2 26 2 4 .int := ⟨RX2, TX2, 6, tyX2, rfl, by decide +kernel, by decide, by decide +kernel, tyX2_ok, nmX2, rfl, by decide +kernel⟩
theorem p_X2_init_29 : g_FldP wsX2_init RX2 29 2 5 .int := ⟨RX2, TX2, 6, tyX2, rfl, by decide +kernel, by decide, by decide +kernel, tyX2_ok, nmX2, rfl, by decide +kernel⟩
set_option maxHeartbeats 4000000 in
set_option maxRecDepth 100000 in
theorem w_m_X2_init_59 {M : g_M} {E : g_E} {T : Nat → g_Sh} {Qf : g_St → State → Prop} (C : g_C (M, E, (0, 0, 60, T), 1, Qf) cX2_init RX2 wsX2_init rm_m_X2_init_59 1) (q : g_qN (M, E, (0, 0, 60, T), 1, Qf) 63 (g_upT T 59 63) 3 335) (hT : g_has 60 T 59 (.inl (2, [some none, some none, some none, none, none, none]))) (σ : g_St) : G (M, E, (0, 0, 60, T), 1, Qf) 0 [(0, .ref (E.2.1 + 59))] [] σ (m_X2_init_59 σ) := by
  have B := g_B_0 hT rfl
  unfold m_X2_init_59
  refine G_aload_n (g_C_at C _ _ _ _ rfl) dX2_init_0 rfl 0 rfl ?_
  refine G_objInit (g_C_at C _ _ _ _ rfl) ow_X2_init rfl dX2_init_1 ?_
  refine G_aload_n (g_C_at C _ _ _ _ rfl) dX2_init_4 rfl 0 rfl ?_
  refine G_sipush (g_C_at C _ _ _ _ rfl) dX2_init_5 (v := 256) (by decide +kernel) ?_
  refine G_newL (g_C_at C _ _ _ _ rfl) aw_X2_init_long (N := 256) (by decide +kernel) rfl dX2_init_8 ?_
  have B := g_B_arr B (s := .inr (.inr (.inl 256))) rfl
  refine G_lts (fun σ1 => ?_)
  refine G_putF (g_C_at C _ _ _ _ rfl) q.2.2.1 (r := 60) ff_X2_init_9 (g_B_has B) (by decide) rfl rfl rfl dX2_init_10 ?_
  have B := g_B_put B (.inl (2, [some (some 60), some none, some none, none, none, none]))
  refine G_aload_n (g_C_at C _ _ _ _ rfl) dX2_init_13 rfl 0 rfl ?_
  refine G_bipush (g_C_at C _ _ _ _ rfl) dX2_init_14 (v := 70) (by decide +kernel) ?_
  refine G_newI (g_C_at C _ _ _ _ rfl) aw_X2_init_int (N := 70) (by decide +kernel) rfl dX2_init_16 ?_
  have B := g_B_arr B (s := .inr (.inl 70)) rfl
  refine G_lts (fun σ2 => ?_)
  refine G_putF (g_C_at C _ _ _ _ rfl) q.2.2.1 (r := 61) ff_X2_init_15 (g_B_has B) (by decide) rfl rfl rfl dX2_init_18 ?_
  have B := g_B_put B (.inl (2, [some (some 60), some (some 61), some none, none, none, none]))
  refine G_aload_n (g_C_at C _ _ _ _ rfl) dX2_init_21 rfl 0 rfl ?_
  refine G_bipush (g_C_at C _ _ _ _ rfl) dX2_init_22 (v := 9) (by decide +kernel) ?_
  refine G_newL (g_C_at C _ _ _ _ rfl) aw_X2_init_long (N := 9) (by decide +kernel) rfl dX2_init_24 ?_
  have B := g_B_arr B (s := .inr (.inr (.inl 9))) rfl
  refine G_lts (fun σ3 => ?_)
  refine G_putF (g_C_at C _ _ _ _ rfl) q.2.2.1 (r := 62) ff_X2_init_19 (g_B_has B) (by decide) rfl rfl rfl dX2_init_26 ?_
  have B := g_B_put B (.inl (2, [some (some 60), some (some 61), some (some 62), none, none, none]))
  refine G_aload_n (g_C_at C _ _ _ _ rfl) dX2_init_29 rfl 0 rfl ?_
  refine G_iconst (g_C_at C _ _ _ _ rfl) dX2_init_30 (v := 0) (by decide +kernel) ?_
  refine G_putI (g_C_at C _ _ _ _ rfl) p_X2_init_22 (g_B_has B) rfl rfl rfl dX2_init_31 ?_
  refine G_lts (fun σ4 => ?_)
  refine G_aload_n (g_C_at C _ _ _ _ rfl) dX2_init_34 rfl 0 rfl ?_
  refine G_iconst (g_C_at C _ _ _ _ rfl) dX2_init_35 (v := 0) (by decide +kernel) ?_
  refine G_putI (g_C_at C _ _ _ _ rfl) p_X2_init_26 (g_B_has B) rfl rfl rfl dX2_init_36 ?_
  refine G_lts (fun σ5 => ?_)
  refine G_aload_n (g_C_at C _ _ _ _ rfl) dX2_init_39 rfl 0 rfl ?_
  refine G_iconst (g_C_at C _ _ _ _ rfl) dX2_init_40 (v := 0) (by decide +kernel) ?_
  refine G_putI (g_C_at C _ _ _ _ rfl) p_X2_init_29 (g_B_has B) rfl rfl rfl dX2_init_41 ?_
  refine G_lts (fun σ6 => ?_)
  exact G_vretN (g_C_at C _ _ _ _ rfl) q (g_B_end B rfl) dX2_init_44
theorem k_m_X2_init_59 (l : Launch) (E : g_E) (T : Nat → g_Sh) (hT : g_has 60 T 59 (.inl (2, [some none, some none, some none, none, none, none]))) (σ : g_St) (a : g_St) (h : m_X2_init_59 σ = some a) : Met l yX2_init wsX2_init rm_m_X2_init_59 (va_Pc [.ref (E.2.1 + 59)] (fun U => g_Wd E 60 T σ U.heap ∧ g_K E U ∧ (fun _ => True) U)) (g_Qv E 63 (g_upT T 59 63) a) 3 335 (g_A E) :=
  g_metN (by decide +kernel) rfl rfl rfl (Nat.le_of_ble_eq_true rfl) (fun M Qf C q hPx => by rw [← h]; exact w_m_X2_init_59 C q hT σ)
/-! m_X9_init_63 -/
abbrev rm_m_X9_init_63 : Room := { frames := 1, cells := 3, slots := 76, locals := 13 }
theorem ow_X9_init : Cond.methodLink RX9 3 Lib.objectInit ∈ wsX9_init ∧ Cond.instanceMethod Lib.objectInit ∈ wsX9_init ∧ Cond.code Lib.objectInit ⟨#[0xb1]⟩ 1 none ∈ wsX9_init := ⟨by decide +kernel, by decide +kernel, by decide +kernel⟩
theorem aw_X9_init_int : Cond.arrayClass .int ∈ wsX9_init := by decide +kernel
theorem ff_X9_init_9 : g_FldF wsX9_init RX9 9 9 0 (.array .int) := ⟨RX9, TX9, 4, tyX9, rfl, by decide +kernel, by decide, by decide +kernel, tyX9_ok, nmX9, rfl, by decide +kernel, rfl⟩
theorem ff_X9_init_15 : g_FldF wsX9_init RX9 15 9 1 (.array .int) := ⟨RX9, TX9, 4, tyX9, rfl, by decide +kernel, by decide, by decide +kernel, tyX9_ok, nmX9, rfl, by decide +kernel, rfl⟩
theorem ff_X9_init_18 : g_FldF wsX9_init RX9 18 9 2 (.array .int) := ⟨RX9, TX9, 4, tyX9, rfl, by decide +kernel, by decide, by decide +kernel, tyX9_ok, nmX9, rfl, by decide +kernel, rfl⟩
theorem p_X9_init_21 : g_FldP wsX9_init RX9 21 9 3 .int := ⟨RX9, TX9, 4, tyX9, rfl, by decide +kernel, by decide, by decide +kernel, tyX9_ok, nmX9, rfl, by decide +kernel⟩
set_option maxHeartbeats 4000000 in
set_option maxRecDepth 100000 in
theorem w_m_X9_init_63 {M : g_M} {E : g_E} {T : Nat → g_Sh} {Qf : g_St → State → Prop} (C : g_C (M, E, (0, 0, 64, T), 1, Qf) cX9_init RX9 wsX9_init rm_m_X9_init_63 1) (q : g_qN (M, E, (0, 0, 64, T), 1, Qf) 67 (g_upT T 63 67) 3 76) (hT : g_has 64 T 63 (.inl (9, [some none, some none, some none, none]))) (σ : g_St) : G (M, E, (0, 0, 64, T), 1, Qf) 0 [(0, .ref (E.2.1 + 63))] [] σ (m_X9_init_63 σ) := by
  have B := g_B_0 hT rfl
  unfold m_X9_init_63
  refine G_aload_n (g_C_at C _ _ _ _ rfl) dX9_init_0 rfl 0 rfl ?_
  refine G_objInit (g_C_at C _ _ _ _ rfl) ow_X9_init rfl dX9_init_1 ?_
  refine G_aload_n (g_C_at C _ _ _ _ rfl) dX9_init_4 rfl 0 rfl ?_
  refine G_bipush (g_C_at C _ _ _ _ rfl) dX9_init_5 (v := 6) (by decide +kernel) ?_
  refine G_newI (g_C_at C _ _ _ _ rfl) aw_X9_init_int (N := 6) (by decide +kernel) rfl dX9_init_7 ?_
  have B := g_B_arr B (s := .inr (.inl 6)) rfl
  refine G_lts (fun σ1 => ?_)
  refine G_putF (g_C_at C _ _ _ _ rfl) q.2.2.1 (r := 64) ff_X9_init_9 (g_B_has B) (by decide) rfl rfl rfl dX9_init_9 ?_
  have B := g_B_put B (.inl (9, [some (some 64), some none, some none, none]))
  refine G_aload_n (g_C_at C _ _ _ _ rfl) dX9_init_12 rfl 0 rfl ?_
  refine G_bipush (g_C_at C _ _ _ _ rfl) dX9_init_13 (v := 64) (by decide +kernel) ?_
  refine G_newI (g_C_at C _ _ _ _ rfl) aw_X9_init_int (N := 64) (by decide +kernel) rfl dX9_init_15 ?_
  have B := g_B_arr B (s := .inr (.inl 64)) rfl
  refine G_lts (fun σ2 => ?_)
  refine G_putF (g_C_at C _ _ _ _ rfl) q.2.2.1 (r := 65) ff_X9_init_15 (g_B_has B) (by decide) rfl rfl rfl dX9_init_17 ?_
  have B := g_B_put B (.inl (9, [some (some 64), some (some 65), some none, none]))
  refine G_aload_n (g_C_at C _ _ _ _ rfl) dX9_init_20 rfl 0 rfl ?_
  refine G_bipush (g_C_at C _ _ _ _ rfl) dX9_init_21 (v := 6) (by decide +kernel) ?_
  refine G_newI (g_C_at C _ _ _ _ rfl) aw_X9_init_int (N := 6) (by decide +kernel) rfl dX9_init_23 ?_
  have B := g_B_arr B (s := .inr (.inl 6)) rfl
  refine G_lts (fun σ3 => ?_)
  refine G_putF (g_C_at C _ _ _ _ rfl) q.2.2.1 (r := 66) ff_X9_init_18 (g_B_has B) (by decide) rfl rfl rfl dX9_init_25 ?_
  have B := g_B_put B (.inl (9, [some (some 64), some (some 65), some (some 66), none]))
  refine G_aload_n (g_C_at C _ _ _ _ rfl) dX9_init_28 rfl 0 rfl ?_
  refine G_iconst (g_C_at C _ _ _ _ rfl) dX9_init_29 (v := 0) (by decide +kernel) ?_
  refine G_putI (g_C_at C _ _ _ _ rfl) p_X9_init_21 (g_B_has B) rfl rfl rfl dX9_init_30 ?_
  refine G_lts (fun σ4 => ?_)
  exact G_vretN (g_C_at C _ _ _ _ rfl) q (g_B_end B rfl) dX9_init_33
theorem k_m_X9_init_63 (l : Launch) (E : g_E) (T : Nat → g_Sh) (hT : g_has 64 T 63 (.inl (9, [some none, some none, some none, none]))) (σ : g_St) (a : g_St) (h : m_X9_init_63 σ = some a) : Met l yX9_init wsX9_init rm_m_X9_init_63 (va_Pc [.ref (E.2.1 + 63)] (fun U => g_Wd E 64 T σ U.heap ∧ g_K E U ∧ (fun _ => True) U)) (g_Qv E 67 (g_upT T 63 67) a) 3 76 (g_A E) :=
  g_metN (by decide +kernel) rfl rfl rfl (Nat.le_of_ble_eq_true rfl) (fun M Qf C q hPx => by rw [← h]; exact w_m_X9_init_63 C q hT σ)
/-! m_X8_init_67 -/
abbrev rm_m_X8_init_67 : Room := { frames := 1, cells := 1, slots := 8, locals := 13 }
theorem ow_X8_init : Cond.methodLink RX8 3 Lib.objectInit ∈ wsX8_init ∧ Cond.instanceMethod Lib.objectInit ∈ wsX8_init ∧ Cond.code Lib.objectInit ⟨#[0xb1]⟩ 1 none ∈ wsX8_init := ⟨by decide +kernel, by decide +kernel, by decide +kernel⟩
theorem aw_X8_init_int : Cond.arrayClass .int ∈ wsX8_init := by decide +kernel
theorem ff_X8_init_9 : g_FldF wsX8_init RX8 9 8 0 (.array .int) := ⟨RX8, TX8, 2, tyX8, rfl, by decide +kernel, by decide, by decide +kernel, tyX8_ok, nmX8, rfl, by decide +kernel, rfl⟩
theorem p_X8_init_15 : g_FldP wsX8_init RX8 15 8 1 .int := ⟨RX8, TX8, 2, tyX8, rfl, by decide +kernel, by decide, by decide +kernel, tyX8_ok, nmX8, rfl, by decide +kernel⟩
set_option maxHeartbeats 4000000 in
set_option maxRecDepth 100000 in
theorem w_m_X8_init_67 {M : g_M} {E : g_E} {T : Nat → g_Sh} {Qf : g_St → State → Prop} (C : g_C (M, E, (0, 0, 68, T), 1, Qf) cX8_init RX8 wsX8_init rm_m_X8_init_67 1) (q : g_qN (M, E, (0, 0, 68, T), 1, Qf) 69 (g_upT T 67 69) 1 8) (hT : g_has 68 T 67 (.inl (8, [some none, none]))) (σ : g_St) : G (M, E, (0, 0, 68, T), 1, Qf) 0 [(0, .ref (E.2.1 + 67))] [] σ (m_X8_init_67 σ) := by
  have B := g_B_0 hT rfl
  unfold m_X8_init_67
  refine G_aload_n (g_C_at C _ _ _ _ rfl) dX8_init_0 rfl 0 rfl ?_
  refine G_objInit (g_C_at C _ _ _ _ rfl) ow_X8_init rfl dX8_init_1 ?_
  refine G_aload_n (g_C_at C _ _ _ _ rfl) dX8_init_4 rfl 0 rfl ?_
  refine G_bipush (g_C_at C _ _ _ _ rfl) dX8_init_5 (v := 8) (by decide +kernel) ?_
  refine G_newI (g_C_at C _ _ _ _ rfl) aw_X8_init_int (N := 8) (by decide +kernel) rfl dX8_init_7 ?_
  have B := g_B_arr B (s := .inr (.inl 8)) rfl
  refine G_lts (fun σ1 => ?_)
  refine G_putF (g_C_at C _ _ _ _ rfl) q.2.2.1 (r := 68) ff_X8_init_9 (g_B_has B) (by decide) rfl rfl rfl dX8_init_9 ?_
  have B := g_B_put B (.inl (8, [some (some 68), none]))
  refine G_aload_n (g_C_at C _ _ _ _ rfl) dX8_init_12 rfl 0 rfl ?_
  refine G_iconst (g_C_at C _ _ _ _ rfl) dX8_init_13 (v := 0) (by decide +kernel) ?_
  refine G_putI (g_C_at C _ _ _ _ rfl) p_X8_init_15 (g_B_has B) rfl rfl rfl dX8_init_14 ?_
  refine G_lts (fun σ2 => ?_)
  exact G_vretN (g_C_at C _ _ _ _ rfl) q (g_B_end B rfl) dX8_init_17
theorem k_m_X8_init_67 (l : Launch) (E : g_E) (T : Nat → g_Sh) (hT : g_has 68 T 67 (.inl (8, [some none, none]))) (σ : g_St) (a : g_St) (h : m_X8_init_67 σ = some a) : Met l yX8_init wsX8_init rm_m_X8_init_67 (va_Pc [.ref (E.2.1 + 67)] (fun U => g_Wd E 68 T σ U.heap ∧ g_K E U ∧ (fun _ => True) U)) (g_Qv E 69 (g_upT T 67 69) a) 1 8 (g_A E) :=
  g_metN (by decide +kernel) rfl rfl rfl (Nat.le_of_ble_eq_true rfl) (fun M Qf C q hPx => by rw [← h]; exact w_m_X8_init_67 C q hT σ)
/-! m_X1_init_69 -/
abbrev rm_m_X1_init_69 : Room := { frames := 1, cells := 4, slots := 20, locals := 13 }
theorem ow_X1_init : Cond.methodLink RX1 3 Lib.objectInit ∈ wsX1_init ∧ Cond.instanceMethod Lib.objectInit ∈ wsX1_init ∧ Cond.code Lib.objectInit ⟨#[0xb1]⟩ 1 none ∈ wsX1_init := ⟨by decide +kernel, by decide +kernel, by decide +kernel⟩
theorem aw_X1_init_int : Cond.arrayClass .int ∈ wsX1_init := by decide +kernel
theorem ff_X1_init_9 : g_FldF wsX1_init RX1 9 1 0 (.array .int) := ⟨RX1, TX1, 8, tyX1, rfl, by decide +kernel, by decide, by decide +kernel, tyX1_ok, nmX1, rfl, by decide +kernel, rfl⟩
theorem ff_X1_init_15 : g_FldF wsX1_init RX1 15 1 1 (.array .int) := ⟨RX1, TX1, 8, tyX1, rfl, by decide +kernel, by decide, by decide +kernel, tyX1_ok, nmX1, rfl, by decide +kernel, rfl⟩
theorem ff_X1_init_18 : g_FldF wsX1_init RX1 18 1 2 (.array .int) := ⟨RX1, TX1, 8, tyX1, rfl, by decide +kernel, by decide, by decide +kernel, tyX1_ok, nmX1, rfl, by decide +kernel, rfl⟩
theorem ff_X1_init_21 : g_FldF wsX1_init RX1 21 1 3 (.array .int) := ⟨RX1, TX1, 8, tyX1, rfl, by decide +kernel, by decide, by decide +kernel, tyX1_ok, nmX1, rfl, by decide +kernel, rfl⟩
theorem p_X1_init_24 : g_FldP wsX1_init RX1 24 1 4 .int := ⟨RX1, TX1, 8, tyX1, rfl, by decide +kernel, by decide, by decide +kernel, tyX1_ok, nmX1, rfl, by decide +kernel⟩
theorem p_X1_init_28 : g_FldP wsX1_init RX1 28 1 5 .int := ⟨RX1, TX1, 8, tyX1, rfl, by decide +kernel, by decide, by decide +kernel, tyX1_ok, nmX1, rfl, by decide +kernel⟩
theorem p_X1_init_31 : g_FldP wsX1_init RX1 31 1 6 .int := ⟨RX1, TX1, 8, tyX1, rfl, by decide +kernel, by decide, by decide +kernel, tyX1_ok, nmX1, rfl, by decide +kernel⟩
theorem p_X1_init_34 : g_FldP wsX1_init RX1 34 1 7 .int := ⟨RX1, TX1, 8, tyX1, rfl, by decide +kernel, by decide, by decide +kernel, tyX1_ok, nmX1, rfl, by decide +kernel⟩
set_option maxHeartbeats 4000000 in
set_option maxRecDepth 100000 in
theorem w_m_X1_init_69 {M : g_M} {E : g_E} {T : Nat → g_Sh} {Qf : g_St → State → Prop} (C : g_C (M, E, (0, 0, 70, T), 1, Qf) cX1_init RX1 wsX1_init rm_m_X1_init_69 1) (q : g_qN (M, E, (0, 0, 70, T), 1, Qf) 74 (g_upT T 69 74) 4 20) (hT : g_has 70 T 69 (.inl (1, [some none, some none, some none, some none, none, none, none, none]))) (σ : g_St) : G (M, E, (0, 0, 70, T), 1, Qf) 0 [(0, .ref (E.2.1 + 69))] [] σ (m_X1_init_69 σ) := by
  have B := g_B_0 hT rfl
  unfold m_X1_init_69
  refine G_aload_n (g_C_at C _ _ _ _ rfl) dX1_init_0 rfl 0 rfl ?_
  refine G_objInit (g_C_at C _ _ _ _ rfl) ow_X1_init rfl dX1_init_1 ?_
  refine G_aload_n (g_C_at C _ _ _ _ rfl) dX1_init_4 rfl 0 rfl ?_
  refine G_bipush (g_C_at C _ _ _ _ rfl) dX1_init_5 (v := 6) (by decide +kernel) ?_
  refine G_newI (g_C_at C _ _ _ _ rfl) aw_X1_init_int (N := 6) (by decide +kernel) rfl dX1_init_7 ?_
  have B := g_B_arr B (s := .inr (.inl 6)) rfl
  refine G_lts (fun σ1 => ?_)
  refine G_putF (g_C_at C _ _ _ _ rfl) q.2.2.1 (r := 70) ff_X1_init_9 (g_B_has B) (by decide) rfl rfl rfl dX1_init_9 ?_
  have B := g_B_put B (.inl (1, [some (some 70), some none, some none, some none, none, none, none, none]))
  refine G_aload_n (g_C_at C _ _ _ _ rfl) dX1_init_12 rfl 0 rfl ?_
  refine G_bipush (g_C_at C _ _ _ _ rfl) dX1_init_13 (v := 6) (by decide +kernel) ?_
  refine G_newI (g_C_at C _ _ _ _ rfl) aw_X1_init_int (N := 6) (by decide +kernel) rfl dX1_init_15 ?_
  have B := g_B_arr B (s := .inr (.inl 6)) rfl
  refine G_lts (fun σ2 => ?_)
  refine G_putF (g_C_at C _ _ _ _ rfl) q.2.2.1 (r := 71) ff_X1_init_15 (g_B_has B) (by decide) rfl rfl rfl dX1_init_17 ?_
  have B := g_B_put B (.inl (1, [some (some 70), some (some 71), some none, some none, none, none, none, none]))
  refine G_aload_n (g_C_at C _ _ _ _ rfl) dX1_init_20 rfl 0 rfl ?_
  refine G_iconst (g_C_at C _ _ _ _ rfl) dX1_init_21 (v := 4) (by decide +kernel) ?_
  refine G_newI (g_C_at C _ _ _ _ rfl) aw_X1_init_int (N := 4) (by decide +kernel) rfl dX1_init_22 ?_
  have B := g_B_arr B (s := .inr (.inl 4)) rfl
  refine G_lts (fun σ3 => ?_)
  refine G_putF (g_C_at C _ _ _ _ rfl) q.2.2.1 (r := 72) ff_X1_init_18 (g_B_has B) (by decide) rfl rfl rfl dX1_init_24 ?_
  have B := g_B_put B (.inl (1, [some (some 70), some (some 71), some (some 72), some none, none, none, none, none]))
  refine G_aload_n (g_C_at C _ _ _ _ rfl) dX1_init_27 rfl 0 rfl ?_
  refine G_iconst (g_C_at C _ _ _ _ rfl) dX1_init_28 (v := 4) (by decide +kernel) ?_
  refine G_newI (g_C_at C _ _ _ _ rfl) aw_X1_init_int (N := 4) (by decide +kernel) rfl dX1_init_29 ?_
  have B := g_B_arr B (s := .inr (.inl 4)) rfl
  refine G_lts (fun σ4 => ?_)
  refine G_putF (g_C_at C _ _ _ _ rfl) q.2.2.1 (r := 73) ff_X1_init_21 (g_B_has B) (by decide) rfl rfl rfl dX1_init_31 ?_
  have B := g_B_put B (.inl (1, [some (some 70), some (some 71), some (some 72), some (some 73), none, none, none, none]))
  refine G_aload_n (g_C_at C _ _ _ _ rfl) dX1_init_34 rfl 0 rfl ?_
  refine G_iconst (g_C_at C _ _ _ _ rfl) dX1_init_35 (v := 0) (by decide +kernel) ?_
  refine G_putI (g_C_at C _ _ _ _ rfl) p_X1_init_24 (g_B_has B) rfl rfl rfl dX1_init_36 ?_
  refine G_lts (fun σ5 => ?_)
  refine G_aload_n (g_C_at C _ _ _ _ rfl) dX1_init_39 rfl 0 rfl ?_
  refine G_iconst (g_C_at C _ _ _ _ rfl) dX1_init_40 (v := 0) (by decide +kernel) ?_
  refine G_putI (g_C_at C _ _ _ _ rfl) p_X1_init_28 (g_B_has B) rfl rfl rfl dX1_init_41 ?_
  refine G_lts (fun σ6 => ?_)
  refine G_aload_n (g_C_at C _ _ _ _ rfl) dX1_init_44 rfl 0 rfl ?_
  refine G_iconst (g_C_at C _ _ _ _ rfl) dX1_init_45 (v := 0) (by decide +kernel) ?_
  refine G_putI (g_C_at C _ _ _ _ rfl) p_X1_init_31 (g_B_has B) rfl rfl rfl dX1_init_46 ?_
  refine G_lts (fun σ7 => ?_)
  refine G_aload_n (g_C_at C _ _ _ _ rfl) dX1_init_49 rfl 0 rfl ?_
  refine G_iconst (g_C_at C _ _ _ _ rfl) dX1_init_50 (v := 0) (by decide +kernel) ?_
  refine G_putI (g_C_at C _ _ _ _ rfl) p_X1_init_34 (g_B_has B) rfl rfl rfl dX1_init_51 ?_
  refine G_lts (fun σ8 => ?_)
  exact G_vretN (g_C_at C _ _ _ _ rfl) q (g_B_end B rfl) dX1_init_54
theorem k_m_X1_init_69 (l : Launch) (E : g_E) (T : Nat → g_Sh) (hT : g_has 70 T 69 (.inl (1, [some none, some none, some none, some none, none, none, none, none]))) (σ : g_St) (a : g_St) (h : m_X1_init_69 σ = some a) : Met l yX1_init wsX1_init rm_m_X1_init_69 (va_Pc [.ref (E.2.1 + 69)] (fun U => g_Wd E 70 T σ U.heap ∧ g_K E U ∧ (fun _ => True) U)) (g_Qv E 74 (g_upT T 69 74) a) 4 20 (g_A E) :=
  g_metN (by decide +kernel) rfl rfl rfl (Nat.le_of_ble_eq_true rfl) (fun M Qf C q hPx => by rw [← h]; exact w_m_X1_init_69 C q hT σ)
/-! m_X0_init_74 -/
abbrev rm_m_X0_init_74 : Room := { frames := 1, cells := 1, slots := 20, locals := 13 }
theorem ow_X0_init : Cond.methodLink RX0 3 Lib.objectInit ∈ wsX0_init ∧ Cond.instanceMethod Lib.objectInit ∈ wsX0_init ∧ Cond.code Lib.objectInit ⟨#[0xb1]⟩ 1 none ∈ wsX0_init := ⟨by decide +kernel, by decide +kernel, by decide +kernel⟩
theorem aw_X0_init_int : Cond.arrayClass .int ∈ wsX0_init := by decide +kernel
theorem ff_X0_init_9 : g_FldF wsX0_init RX0 9 0 0 (.array .int) := ⟨RX0, TX0, 2, tyX0, rfl, by decide +kernel, by decide, by decide +kernel, tyX0_ok, nmX0, rfl, by decide +kernel, rfl⟩
theorem p_X0_init_15 : g_FldP wsX0_init RX0 15 0 1 .int := ⟨RX0, TX0, 2, tyX0, rfl, by decide +kernel, by decide, by decide +kernel, tyX0_ok, nmX0, rfl, by decide +kernel⟩
set_option maxHeartbeats 4000000 in
set_option maxRecDepth 100000 in
theorem w_m_X0_init_74 {M : g_M} {E : g_E} {T : Nat → g_Sh} {Qf : g_St → State → Prop} (C : g_C (M, E, (0, 0, 75, T), 1, Qf) cX0_init RX0 wsX0_init rm_m_X0_init_74 1) (q : g_qN (M, E, (0, 0, 75, T), 1, Qf) 76 (g_upT T 74 76) 1 20) (hT : g_has 75 T 74 (.inl (0, [some none, none]))) (σ : g_St) : G (M, E, (0, 0, 75, T), 1, Qf) 0 [(0, .ref (E.2.1 + 74))] [] σ (m_X0_init_74 σ) := by
  have B := g_B_0 hT rfl
  unfold m_X0_init_74
  refine G_aload_n (g_C_at C _ _ _ _ rfl) dX0_init_0 rfl 0 rfl ?_
  refine G_objInit (g_C_at C _ _ _ _ rfl) ow_X0_init rfl dX0_init_1 ?_
  refine G_aload_n (g_C_at C _ _ _ _ rfl) dX0_init_4 rfl 0 rfl ?_
  refine G_bipush (g_C_at C _ _ _ _ rfl) dX0_init_5 (v := 20) (by decide +kernel) ?_
  refine G_newI (g_C_at C _ _ _ _ rfl) aw_X0_init_int (N := 20) (by decide +kernel) rfl dX0_init_7 ?_
  have B := g_B_arr B (s := .inr (.inl 20)) rfl
  refine G_lts (fun σ1 => ?_)
  refine G_putF (g_C_at C _ _ _ _ rfl) q.2.2.1 (r := 75) ff_X0_init_9 (g_B_has B) (by decide) rfl rfl rfl dX0_init_9 ?_
  have B := g_B_put B (.inl (0, [some (some 75), none]))
  refine G_aload_n (g_C_at C _ _ _ _ rfl) dX0_init_12 rfl 0 rfl ?_
  refine G_iconst (g_C_at C _ _ _ _ rfl) dX0_init_13 (v := 0) (by decide +kernel) ?_
  refine G_putI (g_C_at C _ _ _ _ rfl) p_X0_init_15 (g_B_has B) rfl rfl rfl dX0_init_14 ?_
  refine G_lts (fun σ2 => ?_)
  exact G_vretN (g_C_at C _ _ _ _ rfl) q (g_B_end B rfl) dX0_init_17
theorem k_m_X0_init_74 (l : Launch) (E : g_E) (T : Nat → g_Sh) (hT : g_has 75 T 74 (.inl (0, [some none, none]))) (σ : g_St) (a : g_St) (h : m_X0_init_74 σ = some a) : Met l yX0_init wsX0_init rm_m_X0_init_74 (va_Pc [.ref (E.2.1 + 74)] (fun U => g_Wd E 75 T σ U.heap ∧ g_K E U ∧ (fun _ => True) U)) (g_Qv E 76 (g_upT T 74 76) a) 1 20 (g_A E) :=
  g_metN (by decide +kernel) rfl rfl rfl (Nat.le_of_ble_eq_true rfl) (fun M Qf C q hPx => by rw [← h]; exact w_m_X0_init_74 C q hT σ)
/-! m_X10_init_0 -/
abbrev rm_m_X10_init_0 : Room := { frames := 3, cells := 76, slots := 2165, locals := 63 }
theorem ow_X10_init : Cond.methodLink RX10 1 Lib.objectInit ∈ wsX10_init ∧ Cond.instanceMethod Lib.objectInit ∈ wsX10_init ∧ Cond.code Lib.objectInit ⟨#[0xb1]⟩ 1 none ∈ wsX10_init := ⟨by decide +kernel, by decide +kernel, by decide +kernel⟩
theorem aw_X10_init_int : Cond.arrayClass .int ∈ wsX10_init := by decide +kernel
theorem ff_X10_init_9 : g_FldF wsX10_init RX10 9 10 0 (.array .int) := ⟨RX10, TX10, 15, tyX10, rfl, by decide +kernel, by decide, by decide +kernel, tyX10_ok, nmX10, rfl, by decide +kernel, rfl⟩
theorem cw_X10_init_13 : g_Cls wsX10_init RX10 13 6 12 [some none, some none, some none, none, none, none, none, none, none, none, none, none] := ⟨RX6, TX6, tyX6, rfl, by decide +kernel, tyX6_ok, by decide +kernel, by decide +kernel, by decide +kernel, g_dvX6⟩
theorem iw_X10_init_15 : Cond.initialized (MethodName.cls yX6_init) ∈ wsX10_init ∧ Cond.methodLink RX10 15 yX6_init ∈ wsX10_init ∧ Cond.instanceMethod yX6_init ∈ wsX10_init := ⟨by decide +kernel, by decide +kernel, by decide +kernel⟩
theorem ff_X10_init_16 : g_FldF wsX10_init RX10 16 10 1 (.object "BirthdayLot$Reader") := ⟨RX10, TX10, 15, tyX10, rfl, by decide +kernel, by decide, by decide +kernel, tyX10_ok, nmX10, rfl, by decide +kernel, rfl⟩
theorem cw_X10_init_20 : g_Cls wsX10_init RX10 20 7 6 [some none, some none, none, none, none, none] := ⟨RX7, TX7, tyX7, rfl, by decide +kernel, tyX7_ok, by decide +kernel, by decide +kernel, by decide +kernel, g_dvX7⟩
theorem iw_X10_init_22 : Cond.initialized (MethodName.cls yX7_init) ∈ wsX10_init ∧ Cond.methodLink RX10 22 yX7_init ∈ wsX10_init ∧ Cond.instanceMethod yX7_init ∈ wsX10_init := ⟨by decide +kernel, by decide +kernel, by decide +kernel⟩
theorem ff_X10_init_23 : g_FldF wsX10_init RX10 23 10 2 (.object "BirthdayLot$Rules") := ⟨RX10, TX10, 15, tyX10, rfl, by decide +kernel, by decide, by decide +kernel, tyX10_ok, nmX10, rfl, by decide +kernel, rfl⟩
theorem cw_X10_init_27 : g_Cls wsX10_init RX10 27 4 8 [some none, some none, some none, some none, some none, none, none, none] := ⟨RX4, TX4, tyX4, rfl, by decide +kernel, tyX4_ok, by decide +kernel, by decide +kernel, by decide +kernel, g_dvX4⟩
theorem iw_X10_init_29 : Cond.initialized (MethodName.cls yX4_init) ∈ wsX10_init ∧ Cond.methodLink RX10 29 yX4_init ∈ wsX10_init ∧ Cond.instanceMethod yX4_init ∈ wsX10_init := ⟨by decide +kernel, by decide +kernel, by decide +kernel⟩
theorem ff_X10_init_30 : g_FldF wsX10_init RX10 30 10 3 (.object "BirthdayLot$Moment") := ⟨RX10, TX10, 15, tyX10, rfl, by decide +kernel, by decide, by decide +kernel, tyX10_ok, nmX10, rfl, by decide +kernel, rfl⟩
theorem cw_X10_init_34 : g_Cls wsX10_init RX10 34 5 3 [some none, none, none] := ⟨RX5, TX5, tyX5, rfl, by decide +kernel, tyX5_ok, by decide +kernel, by decide +kernel, by decide +kernel, g_dvX5⟩
theorem iw_X10_init_36 : Cond.initialized (MethodName.cls yX5_init) ∈ wsX10_init ∧ Cond.methodLink RX10 36 yX5_init ∈ wsX10_init ∧ Cond.instanceMethod yX5_init ∈ wsX10_init := ⟨by decide +kernel, by decide +kernel, by decide +kernel⟩
theorem ff_X10_init_37 : g_FldF wsX10_init RX10 37 10 4 (.object "BirthdayLot$Past") := ⟨RX10, TX10, 15, tyX10, rfl, by decide +kernel, by decide, by decide +kernel, tyX10_ok, nmX10, rfl, by decide +kernel, rfl⟩
theorem cw_X10_init_41 : g_Cls wsX10_init RX10 41 3 3 [some none, some none, none] := ⟨RX3, TX3, tyX3, rfl, by decide +kernel, tyX3_ok, by decide +kernel, by decide +kernel, by decide +kernel, g_dvX3⟩
theorem iw_X10_init_43 : Cond.initialized (MethodName.cls yX3_init) ∈ wsX10_init ∧ Cond.methodLink RX10 43 yX3_init ∈ wsX10_init ∧ Cond.instanceMethod yX3_init ∈ wsX10_init := ⟨by decide +kernel, by decide +kernel, by decide +kernel⟩
theorem ff_X10_init_44 : g_FldF wsX10_init RX10 44 10 5 (.object "BirthdayLot$Images") := ⟨RX10, TX10, 15, tyX10, rfl, by decide +kernel, by decide, by decide +kernel, tyX10_ok, nmX10, rfl, by decide +kernel, rfl⟩
theorem cw_X10_init_48 : g_Cls wsX10_init RX10 48 2 6 [some none, some none, some none, none, none, none] := ⟨RX2, TX2, tyX2, rfl, by decide +kernel, tyX2_ok, by decide +kernel, by decide +kernel, by decide +kernel, g_dvX2⟩
theorem iw_X10_init_50 : Cond.initialized (MethodName.cls yX2_init) ∈ wsX10_init ∧ Cond.methodLink RX10 50 yX2_init ∈ wsX10_init ∧ Cond.instanceMethod yX2_init ∈ wsX10_init := ⟨by decide +kernel, by decide +kernel, by decide +kernel⟩
theorem ff_X10_init_51 : g_FldF wsX10_init RX10 51 10 6 (.object "BirthdayLot$Chances") := ⟨RX10, TX10, 15, tyX10, rfl, by decide +kernel, by decide, by decide +kernel, tyX10_ok, nmX10, rfl, by decide +kernel, rfl⟩
theorem cw_X10_init_55 : g_Cls wsX10_init RX10 55 9 4 [some none, some none, some none, none] := ⟨RX9, TX9, tyX9, rfl, by decide +kernel, tyX9_ok, by decide +kernel, by decide +kernel, by decide +kernel, g_dvX9⟩
theorem iw_X10_init_57 : Cond.initialized (MethodName.cls yX9_init) ∈ wsX10_init ∧ Cond.methodLink RX10 57 yX9_init ∈ wsX10_init ∧ Cond.instanceMethod yX9_init ∈ wsX10_init := ⟨by decide +kernel, by decide +kernel, by decide +kernel⟩
theorem ff_X10_init_58 : g_FldF wsX10_init RX10 58 10 7 (.object "BirthdayLot$Weddings") := ⟨RX10, TX10, 15, tyX10, rfl, by decide +kernel, by decide, by decide +kernel, tyX10_ok, nmX10, rfl, by decide +kernel, rfl⟩
theorem cw_X10_init_62 : g_Cls wsX10_init RX10 62 8 2 [some none, none] := ⟨RX8, TX8, tyX8, rfl, by decide +kernel, tyX8_ok, by decide +kernel, by decide +kernel, by decide +kernel, g_dvX8⟩
theorem iw_X10_init_64 : Cond.initialized (MethodName.cls yX8_init) ∈ wsX10_init ∧ Cond.methodLink RX10 64 yX8_init ∈ wsX10_init ∧ Cond.instanceMethod yX8_init ∈ wsX10_init := ⟨by decide +kernel, by decide +kernel, by decide +kernel⟩
theorem ff_X10_init_65 : g_FldF wsX10_init RX10 65 10 8 (.object "BirthdayLot$Scale") := ⟨RX10, TX10, 15, tyX10, rfl, by decide +kernel, by decide, by decide +kernel, tyX10_ok, nmX10, rfl, by decide +kernel, rfl⟩
theorem cw_X10_init_69 : g_Cls wsX10_init RX10 69 1 8 [some none, some none, some none, some none, none, none, none, none] := ⟨RX1, TX1, tyX1, rfl, by decide +kernel, tyX1_ok, by decide +kernel, by decide +kernel, by decide +kernel, g_dvX1⟩
theorem iw_X10_init_71 : Cond.initialized (MethodName.cls yX1_init) ∈ wsX10_init ∧ Cond.methodLink RX10 71 yX1_init ∈ wsX10_init ∧ Cond.instanceMethod yX1_init ∈ wsX10_init := ⟨by decide +kernel, by decide +kernel, by decide +kernel⟩
theorem ff_X10_init_72 : g_FldF wsX10_init RX10 72 10 9 (.object "BirthdayLot$Candles") := ⟨RX10, TX10, 15, tyX10, rfl, by decide +kernel, by decide, by decide +kernel, tyX10_ok, nmX10, rfl, by decide +kernel, rfl⟩
theorem cw_X10_init_76 : g_Cls wsX10_init RX10 76 0 2 [some none, none] := ⟨RX0, TX0, tyX0, rfl, by decide +kernel, tyX0_ok, by decide +kernel, by decide +kernel, by decide +kernel, g_dvX0⟩
theorem iw_X10_init_78 : Cond.initialized (MethodName.cls yX0_init) ∈ wsX10_init ∧ Cond.methodLink RX10 78 yX0_init ∈ wsX10_init ∧ Cond.instanceMethod yX0_init ∈ wsX10_init := ⟨by decide +kernel, by decide +kernel, by decide +kernel⟩
theorem ff_X10_init_79 : g_FldF wsX10_init RX10 79 10 10 (.object "BirthdayLot$Book") := ⟨RX10, TX10, 15, tyX10, rfl, by decide +kernel, by decide, by decide +kernel, tyX10_ok, nmX10, rfl, by decide +kernel, rfl⟩
theorem ff_X10_init_83 : g_FldF wsX10_init RX10 83 10 11 (.array .int) := ⟨RX10, TX10, 15, tyX10, rfl, by decide +kernel, by decide, by decide +kernel, tyX10_ok, nmX10, rfl, by decide +kernel, rfl⟩
theorem p_X10_init_86 : g_FldP wsX10_init RX10 86 10 12 .int := ⟨RX10, TX10, 15, tyX10, rfl, by decide +kernel, by decide, by decide +kernel, tyX10_ok, nmX10, rfl, by decide +kernel⟩
theorem p_X10_init_90 : g_FldP wsX10_init RX10 90 10 13 .int := ⟨RX10, TX10, 15, tyX10, rfl, by decide +kernel, by decide, by decide +kernel, tyX10_ok, nmX10, rfl, by decide +kernel⟩
theorem p_X10_init_93 : g_FldP wsX10_init RX10 93 10 14 .int := ⟨RX10, TX10, 15, tyX10, rfl, by decide +kernel, by decide, by decide +kernel, tyX10_ok, nmX10, rfl, by decide +kernel⟩
set_option maxHeartbeats 4000000 in
set_option maxRecDepth 100000 in
theorem w_m_X10_init_0 {M : g_M} {E : g_E} {T : Nat → g_Sh} {Qf : g_St → State → Prop} (C : g_C (M, E, (0, 0, 1, T), 1, Qf) cX10_init RX10 wsX10_init rm_m_X10_init_0 1) (q : g_qN (M, E, (0, 0, 1, T), 1, Qf) 77 (g_upT T 0 77) 76 2165) (hT : g_has 1 T 0 (.inl (10, [some none, some none, some none, some none, some none, some none, some none, some none, some none, some none, some none, some none, none, none, none]))) (hAO : g_AO M.2.2.2.2.1) (N : Nat) (σ : g_St) : G (M, E, (0, 0, 1, T), 1, Qf) 0 [(0, .ref (E.2.1 + 0))] [] σ (m_X10_init_0 N σ) := by
  have B := g_B_0 hT rfl
  unfold m_X10_init_0
  refine G_aload_n (g_C_at C _ _ _ _ rfl) dX10_init_0 rfl 0 rfl ?_
  refine G_objInit (g_C_at C _ _ _ _ rfl) ow_X10_init rfl dX10_init_1 ?_
  refine G_aload_n (g_C_at C _ _ _ _ rfl) dX10_init_4 rfl 0 rfl ?_
  refine G_sipush (g_C_at C _ _ _ _ rfl) dX10_init_5 (v := 250) (by decide +kernel) ?_
  refine G_newI (g_C_at C _ _ _ _ rfl) aw_X10_init_int (N := 250) (by decide +kernel) rfl dX10_init_8 ?_
  have B := g_B_arr B (s := .inr (.inl 250)) rfl
  refine G_lts (fun σ1 => ?_)
  refine G_putF (g_C_at C _ _ _ _ rfl) q.2.2.1 (r := 1) ff_X10_init_9 (g_B_has B) (by decide) rfl rfl rfl dX10_init_10 ?_
  have B := g_B_put B (.inl (10, [some (some 1), some none, some none, some none, some none, some none, some none, some none, some none, some none, some none, some none, none, none, none]))
  refine G_aload_n (g_C_at C _ _ _ _ rfl) dX10_init_13 rfl 0 rfl ?_
  refine G_new (g_C_at C _ _ _ _ rfl) cw_X10_init_13 rfl dX10_init_14 ?_
  refine G_lts (fun σ2 => ?_)
  refine G_dup (g_C_at C _ _ _ _ rfl) dX10_init_17 rfl ?_
  refine G_callN (g_C_at C _ _ _ _ rfl) (nargs := 0) (As := []) (rest := [.ref (E.2.1 + 2), .ref (E.2.1 + 0)]) (c := 2) (mc := 10) (ms := 66) (n1 := 13) gX10_init_X6_init rfl iw_X10_init_15 rfl (by decide +kernel) rfl rfl rfl dX10_init_18 (Px := fun _ => True) (fun _ _ => trivial) (fun _ _ _ _ _ => trivial) (fun a ha => k_m_X6_init_2 M.2.1 E _ g_has_new N σ2 a ha) (fun σ3 => ?_)
  have B := g_B_sub B (s := .inl (6, [some none, some none, some none, none, none, none, none, none, none, none, none, none])) (n1 := 13) (by decide)
  refine G_putF (g_C_at C _ _ _ _ rfl) q.2.2.1 (r := 2) ff_X10_init_16 (g_B_has B) (by decide) rfl rfl rfl dX10_init_21 ?_
  have B := g_B_put B (.inl (10, [some (some 1), some (some 2), some none, some none, some none, some none, some none, some none, some none, some none, some none, some none, none, none, none]))
  refine G_aload_n (g_C_at C _ _ _ _ rfl) dX10_init_24 rfl 0 rfl ?_
  refine G_new (g_C_at C _ _ _ _ rfl) cw_X10_init_20 rfl dX10_init_25 ?_
  refine G_lts (fun σ4 => ?_)
  refine G_dup (g_C_at C _ _ _ _ rfl) dX10_init_28 rfl ?_
  refine G_callN (g_C_at C _ _ _ _ rfl) (nargs := 0) (As := []) (rest := [.ref (E.2.1 + 13), .ref (E.2.1 + 0)]) (c := 13) (mc := 2) (ms := 12) (n1 := 16) gX10_init_X7_init rfl iw_X10_init_22 rfl (by decide +kernel) rfl rfl rfl dX10_init_29 (Px := fun _ => True) (fun _ _ => trivial) (fun _ _ _ _ _ => trivial) (fun a ha => k_m_X7_init_13 M.2.1 E _ g_has_new σ4 a ha) (fun σ5 => ?_)
  have B := g_B_sub B (s := .inl (7, [some none, some none, none, none, none, none])) (n1 := 16) (by decide)
  refine G_putF (g_C_at C _ _ _ _ rfl) q.2.2.1 (r := 13) ff_X10_init_23 (g_B_has B) (by decide) rfl rfl rfl dX10_init_32 ?_
  have B := g_B_put B (.inl (10, [some (some 1), some (some 2), some (some 13), some none, some none, some none, some none, some none, some none, some none, some none, some none, none, none, none]))
  refine G_aload_n (g_C_at C _ _ _ _ rfl) dX10_init_35 rfl 0 rfl ?_
  refine G_new (g_C_at C _ _ _ _ rfl) cw_X10_init_27 rfl dX10_init_36 ?_
  refine G_lts (fun σ6 => ?_)
  refine G_dup (g_C_at C _ _ _ _ rfl) dX10_init_39 rfl ?_
  refine G_callN (g_C_at C _ _ _ _ rfl) (nargs := 0) (As := []) (rest := [.ref (E.2.1 + 16), .ref (E.2.1 + 0)]) (c := 16) (mc := 5) (ms := 36) (n1 := 22) gX10_init_X4_init rfl iw_X10_init_29 rfl (by decide +kernel) rfl rfl rfl dX10_init_40 (Px := fun _ => True) (fun _ _ => trivial) (fun _ _ _ _ _ => trivial) (fun a ha => k_m_X4_init_16 M.2.1 E _ g_has_new σ6 a ha) (fun σ7 => ?_)
  have B := g_B_sub B (s := .inl (4, [some none, some none, some none, some none, some none, none, none, none])) (n1 := 22) (by decide)
  refine G_putF (g_C_at C _ _ _ _ rfl) q.2.2.1 (r := 16) ff_X10_init_30 (g_B_has B) (by decide) rfl rfl rfl dX10_init_43 ?_
  have B := g_B_put B (.inl (10, [some (some 1), some (some 2), some (some 13), some (some 16), some none, some none, some none, some none, some none, some none, some none, some none, none, none, none]))
  refine G_aload_n (g_C_at C _ _ _ _ rfl) dX10_init_46 rfl 0 rfl ?_
  refine G_new (g_C_at C _ _ _ _ rfl) cw_X10_init_34 rfl dX10_init_47 ?_
  refine G_lts (fun σ8 => ?_)
  refine G_dup (g_C_at C _ _ _ _ rfl) dX10_init_50 rfl ?_
  refine G_callN (g_C_at C _ _ _ _ rfl) (nargs := 0) (As := []) (rest := [.ref (E.2.1 + 22), .ref (E.2.1 + 0)]) (c := 22) (mc := 31) (ms := 1200) (n1 := 54) gX10_init_X5_init rfl iw_X10_init_36 rfl (by decide +kernel) rfl rfl rfl dX10_init_51 (Px := g_AO) (fun U hWm => g_AO_warm hWm hAO) (fun U g mk a h => g_AO_same rfl h) (fun a ha => k_m_X5_init_22 M.2.1 E _ g_has_new σ8 a ha) (fun σ9 => ?_)
  have B := g_B_sub B (s := .inl (5, [some none, none, none])) (n1 := 54) (by decide)
  refine G_putF (g_C_at C _ _ _ _ rfl) q.2.2.1 (r := 22) ff_X10_init_37 (g_B_has B) (by decide) rfl rfl rfl dX10_init_54 ?_
  have B := g_B_put B (.inl (10, [some (some 1), some (some 2), some (some 13), some (some 16), some (some 22), some none, some none, some none, some none, some none, some none, some none, none, none, none]))
  refine G_aload_n (g_C_at C _ _ _ _ rfl) dX10_init_57 rfl 0 rfl ?_
  refine G_new (g_C_at C _ _ _ _ rfl) cw_X10_init_41 rfl dX10_init_58 ?_
  refine G_lts (fun σ10 => ?_)
  refine G_dup (g_C_at C _ _ _ _ rfl) dX10_init_61 rfl ?_
  refine G_callN (g_C_at C _ _ _ _ rfl) (nargs := 0) (As := []) (rest := [.ref (E.2.1 + 54), .ref (E.2.1 + 0)]) (c := 54) (mc := 4) (ms := 82) (n1 := 59) gX10_init_X3_init rfl iw_X10_init_43 rfl (by decide +kernel) rfl rfl rfl dX10_init_62 (Px := g_AO) (fun U hWm => g_AO_warm hWm hAO) (fun U g mk a h => g_AO_same rfl h) (fun a ha => k_m_X3_init_54 M.2.1 E _ g_has_new σ10 a ha) (fun σ11 => ?_)
  have B := g_B_sub B (s := .inl (3, [some none, some none, none])) (n1 := 59) (by decide)
  refine G_putF (g_C_at C _ _ _ _ rfl) q.2.2.1 (r := 54) ff_X10_init_44 (g_B_has B) (by decide) rfl rfl rfl dX10_init_65 ?_
  have B := g_B_put B (.inl (10, [some (some 1), some (some 2), some (some 13), some (some 16), some (some 22), some (some 54), some none, some none, some none, some none, some none, some none, none, none, none]))
  refine G_aload_n (g_C_at C _ _ _ _ rfl) dX10_init_68 rfl 0 rfl ?_
  refine G_new (g_C_at C _ _ _ _ rfl) cw_X10_init_48 rfl dX10_init_69 ?_
  refine G_lts (fun σ12 => ?_)
  refine G_dup (g_C_at C _ _ _ _ rfl) dX10_init_72 rfl ?_
  refine G_callN (g_C_at C _ _ _ _ rfl) (nargs := 0) (As := []) (rest := [.ref (E.2.1 + 59), .ref (E.2.1 + 0)]) (c := 59) (mc := 3) (ms := 335) (n1 := 63) gX10_init_X2_init rfl iw_X10_init_50 rfl (by decide +kernel) rfl rfl rfl dX10_init_73 (Px := fun _ => True) (fun _ _ => trivial) (fun _ _ _ _ _ => trivial) (fun a ha => k_m_X2_init_59 M.2.1 E _ g_has_new σ12 a ha) (fun σ13 => ?_)
  have B := g_B_sub B (s := .inl (2, [some none, some none, some none, none, none, none])) (n1 := 63) (by decide)
  refine G_putF (g_C_at C _ _ _ _ rfl) q.2.2.1 (r := 59) ff_X10_init_51 (g_B_has B) (by decide) rfl rfl rfl dX10_init_76 ?_
  have B := g_B_put B (.inl (10, [some (some 1), some (some 2), some (some 13), some (some 16), some (some 22), some (some 54), some (some 59), some none, some none, some none, some none, some none, none, none, none]))
  refine G_aload_n (g_C_at C _ _ _ _ rfl) dX10_init_79 rfl 0 rfl ?_
  refine G_new (g_C_at C _ _ _ _ rfl) cw_X10_init_55 rfl dX10_init_80 ?_
  refine G_lts (fun σ14 => ?_)
  refine G_dup (g_C_at C _ _ _ _ rfl) dX10_init_83 rfl ?_
  refine G_callN (g_C_at C _ _ _ _ rfl) (nargs := 0) (As := []) (rest := [.ref (E.2.1 + 63), .ref (E.2.1 + 0)]) (c := 63) (mc := 3) (ms := 76) (n1 := 67) gX10_init_X9_init rfl iw_X10_init_57 rfl (by decide +kernel) rfl rfl rfl dX10_init_84 (Px := fun _ => True) (fun _ _ => trivial) (fun _ _ _ _ _ => trivial) (fun a ha => k_m_X9_init_63 M.2.1 E _ g_has_new σ14 a ha) (fun σ15 => ?_)
  have B := g_B_sub B (s := .inl (9, [some none, some none, some none, none])) (n1 := 67) (by decide)
  refine G_putF (g_C_at C _ _ _ _ rfl) q.2.2.1 (r := 63) ff_X10_init_58 (g_B_has B) (by decide) rfl rfl rfl dX10_init_87 ?_
  have B := g_B_put B (.inl (10, [some (some 1), some (some 2), some (some 13), some (some 16), some (some 22), some (some 54), some (some 59), some (some 63), some none, some none, some none, some none, none, none, none]))
  refine G_aload_n (g_C_at C _ _ _ _ rfl) dX10_init_90 rfl 0 rfl ?_
  refine G_new (g_C_at C _ _ _ _ rfl) cw_X10_init_62 rfl dX10_init_91 ?_
  refine G_lts (fun σ16 => ?_)
  refine G_dup (g_C_at C _ _ _ _ rfl) dX10_init_94 rfl ?_
  refine G_callN (g_C_at C _ _ _ _ rfl) (nargs := 0) (As := []) (rest := [.ref (E.2.1 + 67), .ref (E.2.1 + 0)]) (c := 67) (mc := 1) (ms := 8) (n1 := 69) gX10_init_X8_init rfl iw_X10_init_64 rfl (by decide +kernel) rfl rfl rfl dX10_init_95 (Px := fun _ => True) (fun _ _ => trivial) (fun _ _ _ _ _ => trivial) (fun a ha => k_m_X8_init_67 M.2.1 E _ g_has_new σ16 a ha) (fun σ17 => ?_)
  have B := g_B_sub B (s := .inl (8, [some none, none])) (n1 := 69) (by decide)
  refine G_putF (g_C_at C _ _ _ _ rfl) q.2.2.1 (r := 67) ff_X10_init_65 (g_B_has B) (by decide) rfl rfl rfl dX10_init_98 ?_
  have B := g_B_put B (.inl (10, [some (some 1), some (some 2), some (some 13), some (some 16), some (some 22), some (some 54), some (some 59), some (some 63), some (some 67), some none, some none, some none, none, none, none]))
  refine G_aload_n (g_C_at C _ _ _ _ rfl) dX10_init_101 rfl 0 rfl ?_
  refine G_new (g_C_at C _ _ _ _ rfl) cw_X10_init_69 rfl dX10_init_102 ?_
  refine G_lts (fun σ18 => ?_)
  refine G_dup (g_C_at C _ _ _ _ rfl) dX10_init_105 rfl ?_
  refine G_callN (g_C_at C _ _ _ _ rfl) (nargs := 0) (As := []) (rest := [.ref (E.2.1 + 69), .ref (E.2.1 + 0)]) (c := 69) (mc := 4) (ms := 20) (n1 := 74) gX10_init_X1_init rfl iw_X10_init_71 rfl (by decide +kernel) rfl rfl rfl dX10_init_106 (Px := fun _ => True) (fun _ _ => trivial) (fun _ _ _ _ _ => trivial) (fun a ha => k_m_X1_init_69 M.2.1 E _ g_has_new σ18 a ha) (fun σ19 => ?_)
  have B := g_B_sub B (s := .inl (1, [some none, some none, some none, some none, none, none, none, none])) (n1 := 74) (by decide)
  refine G_putF (g_C_at C _ _ _ _ rfl) q.2.2.1 (r := 69) ff_X10_init_72 (g_B_has B) (by decide) rfl rfl rfl dX10_init_109 ?_
  have B := g_B_put B (.inl (10, [some (some 1), some (some 2), some (some 13), some (some 16), some (some 22), some (some 54), some (some 59), some (some 63), some (some 67), some (some 69), some none, some none, none, none, none]))
  refine G_aload_n (g_C_at C _ _ _ _ rfl) dX10_init_112 rfl 0 rfl ?_
  refine G_new (g_C_at C _ _ _ _ rfl) cw_X10_init_76 rfl dX10_init_113 ?_
  refine G_lts (fun σ20 => ?_)
  refine G_dup (g_C_at C _ _ _ _ rfl) dX10_init_116 rfl ?_
  refine G_callN (g_C_at C _ _ _ _ rfl) (nargs := 0) (As := []) (rest := [.ref (E.2.1 + 74), .ref (E.2.1 + 0)]) (c := 74) (mc := 1) (ms := 20) (n1 := 76) gX10_init_X0_init rfl iw_X10_init_78 rfl (by decide +kernel) rfl rfl rfl dX10_init_117 (Px := fun _ => True) (fun _ _ => trivial) (fun _ _ _ _ _ => trivial) (fun a ha => k_m_X0_init_74 M.2.1 E _ g_has_new σ20 a ha) (fun σ21 => ?_)
  have B := g_B_sub B (s := .inl (0, [some none, none])) (n1 := 76) (by decide)
  refine G_putF (g_C_at C _ _ _ _ rfl) q.2.2.1 (r := 74) ff_X10_init_79 (g_B_has B) (by decide) rfl rfl rfl dX10_init_120 ?_
  have B := g_B_put B (.inl (10, [some (some 1), some (some 2), some (some 13), some (some 16), some (some 22), some (some 54), some (some 59), some (some 63), some (some 67), some (some 69), some (some 74), some none, none, none, none]))
  refine G_aload_n (g_C_at C _ _ _ _ rfl) dX10_init_123 rfl 0 rfl ?_
  refine G_bipush (g_C_at C _ _ _ _ rfl) dX10_init_124 (v := 6) (by decide +kernel) ?_
  refine G_newI (g_C_at C _ _ _ _ rfl) aw_X10_init_int (N := 6) (by decide +kernel) rfl dX10_init_126 ?_
  have B := g_B_arr B (s := .inr (.inl 6)) rfl
  refine G_lts (fun σ22 => ?_)
  refine G_putF (g_C_at C _ _ _ _ rfl) q.2.2.1 (r := 76) ff_X10_init_83 (g_B_has B) (by decide) rfl rfl rfl dX10_init_128 ?_
  have B := g_B_put B (.inl (10, [some (some 1), some (some 2), some (some 13), some (some 16), some (some 22), some (some 54), some (some 59), some (some 63), some (some 67), some (some 69), some (some 74), some (some 76), none, none, none]))
  refine G_aload_n (g_C_at C _ _ _ _ rfl) dX10_init_131 rfl 0 rfl ?_
  refine G_iconst (g_C_at C _ _ _ _ rfl) dX10_init_132 (v := 0) (by decide +kernel) ?_
  refine G_putI (g_C_at C _ _ _ _ rfl) p_X10_init_86 (g_B_has B) rfl rfl rfl dX10_init_133 ?_
  refine G_lts (fun σ23 => ?_)
  refine G_aload_n (g_C_at C _ _ _ _ rfl) dX10_init_136 rfl 0 rfl ?_
  refine G_iconst (g_C_at C _ _ _ _ rfl) dX10_init_137 (v := -1) (by decide +kernel) ?_
  refine G_putI (g_C_at C _ _ _ _ rfl) p_X10_init_90 (g_B_has B) rfl rfl rfl dX10_init_138 ?_
  refine G_lts (fun σ24 => ?_)
  refine G_aload_n (g_C_at C _ _ _ _ rfl) dX10_init_141 rfl 0 rfl ?_
  refine G_iconst (g_C_at C _ _ _ _ rfl) dX10_init_142 (v := 0) (by decide +kernel) ?_
  refine G_putI (g_C_at C _ _ _ _ rfl) p_X10_init_93 (g_B_has B) rfl rfl rfl dX10_init_143 ?_
  refine G_lts (fun σ25 => ?_)
  exact G_vretN (g_C_at C _ _ _ _ rfl) q (g_B_end B rfl) dX10_init_146
theorem k_m_X10_init_0 (l : Launch) (E : g_E) (T : Nat → g_Sh) (hT : g_has 1 T 0 (.inl (10, [some none, some none, some none, some none, some none, some none, some none, some none, some none, some none, some none, some none, none, none, none]))) (N : Nat) (σ : g_St) (a : g_St) (h : m_X10_init_0 N σ = some a) : Met l yX10_init wsX10_init rm_m_X10_init_0 (va_Pc [.ref (E.2.1 + 0)] (fun U => g_Wd E 1 T σ U.heap ∧ g_K E U ∧ (g_AO) U)) (g_Qv E 77 (g_upT T 0 77) a) 76 2165 (g_A E) :=
  g_metN (by decide +kernel) rfl rfl rfl (Nat.le_of_ble_eq_true rfl) (fun M Qf C q hPx => by rw [← h]; exact w_m_X10_init_0 C q hT hPx N σ)
/-! m_X11_init_77 -/
abbrev rm_m_X11_init_77 : Room := { frames := 2, cells := 15, slots := 2238, locals := 41 }
theorem ow_X11_init : Cond.methodLink RX11 1 Lib.objectInit ∈ wsX11_init ∧ Cond.instanceMethod Lib.objectInit ∈ wsX11_init ∧ Cond.code Lib.objectInit ⟨#[0xb1]⟩ 1 none ∈ wsX11_init := ⟨by decide +kernel, by decide +kernel, by decide +kernel⟩
theorem aw_X11_init_int : Cond.arrayClass .int ∈ wsX11_init := by decide +kernel
theorem ff_X11_init_7 : g_FldF wsX11_init RX11 7 11 0 (.array .int) := ⟨RX11, TX11, 27, tyX11, rfl, by decide +kernel, by decide, by decide +kernel, tyX11_ok, nmX11, rfl, by decide +kernel, rfl⟩
theorem ff_X11_init_13 : g_FldF wsX11_init RX11 13 11 1 (.array .int) := ⟨RX11, TX11, 27, tyX11, rfl, by decide +kernel, by decide, by decide +kernel, tyX11_ok, nmX11, rfl, by decide +kernel, rfl⟩
theorem ff_X11_init_16 : g_FldF wsX11_init RX11 16 11 2 (.array .int) := ⟨RX11, TX11, 27, tyX11, rfl, by decide +kernel, by decide, by decide +kernel, tyX11_ok, nmX11, rfl, by decide +kernel, rfl⟩
theorem ff_X11_init_19 : g_FldF wsX11_init RX11 19 11 7 (.array .int) := ⟨RX11, TX11, 27, tyX11, rfl, by decide +kernel, by decide, by decide +kernel, tyX11_ok, nmX11, rfl, by decide +kernel, rfl⟩
theorem ff_X11_init_22 : g_FldF wsX11_init RX11 22 11 10 (.array .int) := ⟨RX11, TX11, 27, tyX11, rfl, by decide +kernel, by decide, by decide +kernel, tyX11_ok, nmX11, rfl, by decide +kernel, rfl⟩
theorem ff_X11_init_25 : g_FldF wsX11_init RX11 25 11 11 (.array .int) := ⟨RX11, TX11, 27, tyX11, rfl, by decide +kernel, by decide, by decide +kernel, tyX11_ok, nmX11, rfl, by decide +kernel, rfl⟩
theorem ff_X11_init_28 : g_FldF wsX11_init RX11 28 11 12 (.array .int) := ⟨RX11, TX11, 27, tyX11, rfl, by decide +kernel, by decide, by decide +kernel, tyX11_ok, nmX11, rfl, by decide +kernel, rfl⟩
theorem ff_X11_init_31 : g_FldF wsX11_init RX11 31 11 13 (.array .int) := ⟨RX11, TX11, 27, tyX11, rfl, by decide +kernel, by decide, by decide +kernel, tyX11_ok, nmX11, rfl, by decide +kernel, rfl⟩
theorem ff_X11_init_34 : g_FldF wsX11_init RX11 34 11 14 (.array .int) := ⟨RX11, TX11, 27, tyX11, rfl, by decide +kernel, by decide, by decide +kernel, tyX11_ok, nmX11, rfl, by decide +kernel, rfl⟩
theorem ff_X11_init_37 : g_FldF wsX11_init RX11 37 11 15 (.array .int) := ⟨RX11, TX11, 27, tyX11, rfl, by decide +kernel, by decide, by decide +kernel, tyX11_ok, nmX11, rfl, by decide +kernel, rfl⟩
theorem ff_X11_init_40 : g_FldF wsX11_init RX11 40 11 16 (.array .int) := ⟨RX11, TX11, 27, tyX11, rfl, by decide +kernel, by decide, by decide +kernel, tyX11_ok, nmX11, rfl, by decide +kernel, rfl⟩
theorem ff_X11_init_43 : g_FldF wsX11_init RX11 43 11 18 (.array .int) := ⟨RX11, TX11, 27, tyX11, rfl, by decide +kernel, by decide, by decide +kernel, tyX11_ok, nmX11, rfl, by decide +kernel, rfl⟩
theorem ff_X11_init_46 : g_FldF wsX11_init RX11 46 11 20 (.array .int) := ⟨RX11, TX11, 27, tyX11, rfl, by decide +kernel, by decide, by decide +kernel, tyX11_ok, nmX11, rfl, by decide +kernel, rfl⟩
theorem ff_X11_init_49 : g_FldF wsX11_init RX11 49 11 22 (.array .int) := ⟨RX11, TX11, 27, tyX11, rfl, by decide +kernel, by decide, by decide +kernel, tyX11_ok, nmX11, rfl, by decide +kernel, rfl⟩
theorem ff_X11_init_52 : g_FldF wsX11_init RX11 52 11 26 (.array .int) := ⟨RX11, TX11, 27, tyX11, rfl, by decide +kernel, by decide, by decide +kernel, tyX11_ok, nmX11, rfl, by decide +kernel, rfl⟩
theorem p_X11_init_55 : g_FldP wsX11_init RX11 55 11 6 .int := ⟨RX11, TX11, 27, tyX11, rfl, by decide +kernel, by decide, by decide +kernel, tyX11_ok, nmX11, rfl, by decide +kernel⟩
set_option maxHeartbeats 4000000 in
set_option maxRecDepth 100000 in
theorem w_m_X11_init_77 {M : g_M} {E : g_E} {T : Nat → g_Sh} {Qf : g_St → State → Prop} (C : g_C (M, E, (0, 0, 78, T), 1, Qf) cX11_init RX11 wsX11_init rm_m_X11_init_77 1) (q : g_qN (M, E, (0, 0, 78, T), 1, Qf) 93 (g_upT T 77 93) 15 2238) (hT : g_has 78 T 77 (.inl (11, [some none, some none, some none, none, none, none, none, some none, none, none, some none, some none, some none, some none, some none, some none, some none, none, some none, none, some none, none, some none, none, none, none, some none]))) (N : Nat) (σ : g_St) : G (M, E, (0, 0, 78, T), 1, Qf) 0 [(0, .ref (E.2.1 + 77))] [] σ (m_X11_init_77 N σ) := by
  have B := g_B_0 hT rfl
  unfold m_X11_init_77
  refine G_aload_n (g_C_at C _ _ _ _ rfl) dX11_init_0 rfl 0 rfl ?_
  refine G_objInit (g_C_at C _ _ _ _ rfl) ow_X11_init rfl dX11_init_1 ?_
  refine G_aload_n (g_C_at C _ _ _ _ rfl) dX11_init_4 rfl 0 rfl ?_
  refine G_bipush (g_C_at C _ _ _ _ rfl) dX11_init_5 (v := 45) (by decide +kernel) ?_
  refine G_newI (g_C_at C _ _ _ _ rfl) aw_X11_init_int (N := 45) (by decide +kernel) rfl dX11_init_7 ?_
  have B := g_B_arr B (s := .inr (.inl 45)) rfl
  refine G_lts (fun σ1 => ?_)
  refine G_putF (g_C_at C _ _ _ _ rfl) q.2.2.1 (r := 78) ff_X11_init_7 (g_B_has B) (by decide) rfl rfl rfl dX11_init_9 ?_
  have B := g_B_put B (.inl (11, [some (some 78), some none, some none, none, none, none, none, some none, none, none, some none, some none, some none, some none, some none, some none, some none, none, some none, none, some none, none, some none, none, none, none, some none]))
  refine G_aload_n (g_C_at C _ _ _ _ rfl) dX11_init_12 rfl 0 rfl ?_
  refine G_bipush (g_C_at C _ _ _ _ rfl) dX11_init_13 (v := 45) (by decide +kernel) ?_
  refine G_newI (g_C_at C _ _ _ _ rfl) aw_X11_init_int (N := 45) (by decide +kernel) rfl dX11_init_15 ?_
  have B := g_B_arr B (s := .inr (.inl 45)) rfl
  refine G_lts (fun σ2 => ?_)
  refine G_putF (g_C_at C _ _ _ _ rfl) q.2.2.1 (r := 79) ff_X11_init_13 (g_B_has B) (by decide) rfl rfl rfl dX11_init_17 ?_
  have B := g_B_put B (.inl (11, [some (some 78), some (some 79), some none, none, none, none, none, some none, none, none, some none, some none, some none, some none, some none, some none, some none, none, some none, none, some none, none, some none, none, none, none, some none]))
  refine G_aload_n (g_C_at C _ _ _ _ rfl) dX11_init_20 rfl 0 rfl ?_
  refine G_sipush (g_C_at C _ _ _ _ rfl) dX11_init_21 (v := 250) (by decide +kernel) ?_
  refine G_newI (g_C_at C _ _ _ _ rfl) aw_X11_init_int (N := 250) (by decide +kernel) rfl dX11_init_24 ?_
  have B := g_B_arr B (s := .inr (.inl 250)) rfl
  refine G_lts (fun σ3 => ?_)
  refine G_putF (g_C_at C _ _ _ _ rfl) q.2.2.1 (r := 80) ff_X11_init_16 (g_B_has B) (by decide) rfl rfl rfl dX11_init_26 ?_
  have B := g_B_put B (.inl (11, [some (some 78), some (some 79), some (some 80), none, none, none, none, some none, none, none, some none, some none, some none, some none, some none, some none, some none, none, some none, none, some none, none, some none, none, none, none, some none]))
  refine G_aload_n (g_C_at C _ _ _ _ rfl) dX11_init_29 rfl 0 rfl ?_
  refine G_bipush (g_C_at C _ _ _ _ rfl) dX11_init_30 (v := 39) (by decide +kernel) ?_
  refine G_newI (g_C_at C _ _ _ _ rfl) aw_X11_init_int (N := 39) (by decide +kernel) rfl dX11_init_32 ?_
  have B := g_B_arr B (s := .inr (.inl 39)) rfl
  refine G_lts (fun σ4 => ?_)
  refine G_putF (g_C_at C _ _ _ _ rfl) q.2.2.1 (r := 81) ff_X11_init_19 (g_B_has B) (by decide) rfl rfl rfl dX11_init_34 ?_
  have B := g_B_put B (.inl (11, [some (some 78), some (some 79), some (some 80), none, none, none, none, some (some 81), none, none, some none, some none, some none, some none, some none, some none, some none, none, some none, none, some none, none, some none, none, none, none, some none]))
  refine G_aload_n (g_C_at C _ _ _ _ rfl) dX11_init_37 rfl 0 rfl ?_
  refine G_sipush (g_C_at C _ _ _ _ rfl) dX11_init_38 (v := 1170) (by decide +kernel) ?_
  refine G_newI (g_C_at C _ _ _ _ rfl) aw_X11_init_int (N := 1170) (by decide +kernel) rfl dX11_init_41 ?_
  have B := g_B_arr B (s := .inr (.inl 1170)) rfl
  refine G_lts (fun σ5 => ?_)
  refine G_putF (g_C_at C _ _ _ _ rfl) q.2.2.1 (r := 82) ff_X11_init_22 (g_B_has B) (by decide) rfl rfl rfl dX11_init_43 ?_
  have B := g_B_put B (.inl (11, [some (some 78), some (some 79), some (some 80), none, none, none, none, some (some 81), none, none, some (some 82), some none, some none, some none, some none, some none, some none, none, some none, none, some none, none, some none, none, none, none, some none]))
  refine G_aload_n (g_C_at C _ _ _ _ rfl) dX11_init_46 rfl 0 rfl ?_
  refine G_bipush (g_C_at C _ _ _ _ rfl) dX11_init_47 (v := 10) (by decide +kernel) ?_
  refine G_newI (g_C_at C _ _ _ _ rfl) aw_X11_init_int (N := 10) (by decide +kernel) rfl dX11_init_49 ?_
  have B := g_B_arr B (s := .inr (.inl 10)) rfl
  refine G_lts (fun σ6 => ?_)
  refine G_putF (g_C_at C _ _ _ _ rfl) q.2.2.1 (r := 83) ff_X11_init_25 (g_B_has B) (by decide) rfl rfl rfl dX11_init_51 ?_
  have B := g_B_put B (.inl (11, [some (some 78), some (some 79), some (some 80), none, none, none, none, some (some 81), none, none, some (some 82), some (some 83), some none, some none, some none, some none, some none, none, some none, none, some none, none, some none, none, none, none, some none]))
  refine G_aload_n (g_C_at C _ _ _ _ rfl) dX11_init_54 rfl 0 rfl ?_
  refine G_sipush (g_C_at C _ _ _ _ rfl) dX11_init_55 (v := 256) (by decide +kernel) ?_
  refine G_newI (g_C_at C _ _ _ _ rfl) aw_X11_init_int (N := 256) (by decide +kernel) rfl dX11_init_58 ?_
  have B := g_B_arr B (s := .inr (.inl 256)) rfl
  refine G_lts (fun σ7 => ?_)
  refine G_putF (g_C_at C _ _ _ _ rfl) q.2.2.1 (r := 84) ff_X11_init_28 (g_B_has B) (by decide) rfl rfl rfl dX11_init_60 ?_
  have B := g_B_put B (.inl (11, [some (some 78), some (some 79), some (some 80), none, none, none, none, some (some 81), none, none, some (some 82), some (some 83), some (some 84), some none, some none, some none, some none, none, some none, none, some none, none, some none, none, none, none, some none]))
  refine G_aload_n (g_C_at C _ _ _ _ rfl) dX11_init_63 rfl 0 rfl ?_
  refine G_sipush (g_C_at C _ _ _ _ rfl) dX11_init_64 (v := 256) (by decide +kernel) ?_
  refine G_newI (g_C_at C _ _ _ _ rfl) aw_X11_init_int (N := 256) (by decide +kernel) rfl dX11_init_67 ?_
  have B := g_B_arr B (s := .inr (.inl 256)) rfl
  refine G_lts (fun σ8 => ?_)
  refine G_putF (g_C_at C _ _ _ _ rfl) q.2.2.1 (r := 85) ff_X11_init_31 (g_B_has B) (by decide) rfl rfl rfl dX11_init_69 ?_
  have B := g_B_put B (.inl (11, [some (some 78), some (some 79), some (some 80), none, none, none, none, some (some 81), none, none, some (some 82), some (some 83), some (some 84), some (some 85), some none, some none, some none, none, some none, none, some none, none, some none, none, none, none, some none]))
  refine G_aload_n (g_C_at C _ _ _ _ rfl) dX11_init_72 rfl 0 rfl ?_
  refine G_bipush (g_C_at C _ _ _ _ rfl) dX11_init_73 (v := 39) (by decide +kernel) ?_
  refine G_newI (g_C_at C _ _ _ _ rfl) aw_X11_init_int (N := 39) (by decide +kernel) rfl dX11_init_75 ?_
  have B := g_B_arr B (s := .inr (.inl 39)) rfl
  refine G_lts (fun σ9 => ?_)
  refine G_putF (g_C_at C _ _ _ _ rfl) q.2.2.1 (r := 86) ff_X11_init_34 (g_B_has B) (by decide) rfl rfl rfl dX11_init_77 ?_
  have B := g_B_put B (.inl (11, [some (some 78), some (some 79), some (some 80), none, none, none, none, some (some 81), none, none, some (some 82), some (some 83), some (some 84), some (some 85), some (some 86), some none, some none, none, some none, none, some none, none, some none, none, none, none, some none]))
  refine G_aload_n (g_C_at C _ _ _ _ rfl) dX11_init_80 rfl 0 rfl ?_
  refine G_bipush (g_C_at C _ _ _ _ rfl) dX11_init_81 (v := 6) (by decide +kernel) ?_
  refine G_newI (g_C_at C _ _ _ _ rfl) aw_X11_init_int (N := 6) (by decide +kernel) rfl dX11_init_83 ?_
  have B := g_B_arr B (s := .inr (.inl 6)) rfl
  refine G_lts (fun σ10 => ?_)
  refine G_putF (g_C_at C _ _ _ _ rfl) q.2.2.1 (r := 87) ff_X11_init_37 (g_B_has B) (by decide) rfl rfl rfl dX11_init_85 ?_
  have B := g_B_put B (.inl (11, [some (some 78), some (some 79), some (some 80), none, none, none, none, some (some 81), none, none, some (some 82), some (some 83), some (some 84), some (some 85), some (some 86), some (some 87), some none, none, some none, none, some none, none, some none, none, none, none, some none]))
  refine G_aload_n (g_C_at C _ _ _ _ rfl) dX11_init_88 rfl 0 rfl ?_
  refine G_bipush (g_C_at C _ _ _ _ rfl) dX11_init_89 (v := 6) (by decide +kernel) ?_
  refine G_newI (g_C_at C _ _ _ _ rfl) aw_X11_init_int (N := 6) (by decide +kernel) rfl dX11_init_91 ?_
  have B := g_B_arr B (s := .inr (.inl 6)) rfl
  refine G_lts (fun σ11 => ?_)
  refine G_putF (g_C_at C _ _ _ _ rfl) q.2.2.1 (r := 88) ff_X11_init_40 (g_B_has B) (by decide) rfl rfl rfl dX11_init_93 ?_
  have B := g_B_put B (.inl (11, [some (some 78), some (some 79), some (some 80), none, none, none, none, some (some 81), none, none, some (some 82), some (some 83), some (some 84), some (some 85), some (some 86), some (some 87), some (some 88), none, some none, none, some none, none, some none, none, none, none, some none]))
  refine G_aload_n (g_C_at C _ _ _ _ rfl) dX11_init_96 rfl 0 rfl ?_
  refine G_bipush (g_C_at C _ _ _ _ rfl) dX11_init_97 (v := 8) (by decide +kernel) ?_
  refine G_newI (g_C_at C _ _ _ _ rfl) aw_X11_init_int (N := 8) (by decide +kernel) rfl dX11_init_99 ?_
  have B := g_B_arr B (s := .inr (.inl 8)) rfl
  refine G_lts (fun σ12 => ?_)
  refine G_putF (g_C_at C _ _ _ _ rfl) q.2.2.1 (r := 89) ff_X11_init_43 (g_B_has B) (by decide) rfl rfl rfl dX11_init_101 ?_
  have B := g_B_put B (.inl (11, [some (some 78), some (some 79), some (some 80), none, none, none, none, some (some 81), none, none, some (some 82), some (some 83), some (some 84), some (some 85), some (some 86), some (some 87), some (some 88), none, some (some 89), none, some none, none, some none, none, none, none, some none]))
  refine G_aload_n (g_C_at C _ _ _ _ rfl) dX11_init_104 rfl 0 rfl ?_
  refine G_bipush (g_C_at C _ _ _ _ rfl) dX11_init_105 (v := 6) (by decide +kernel) ?_
  refine G_newI (g_C_at C _ _ _ _ rfl) aw_X11_init_int (N := 6) (by decide +kernel) rfl dX11_init_107 ?_
  have B := g_B_arr B (s := .inr (.inl 6)) rfl
  refine G_lts (fun σ13 => ?_)
  refine G_putF (g_C_at C _ _ _ _ rfl) q.2.2.1 (r := 90) ff_X11_init_46 (g_B_has B) (by decide) rfl rfl rfl dX11_init_109 ?_
  have B := g_B_put B (.inl (11, [some (some 78), some (some 79), some (some 80), none, none, none, none, some (some 81), none, none, some (some 82), some (some 83), some (some 84), some (some 85), some (some 86), some (some 87), some (some 88), none, some (some 89), none, some (some 90), none, some none, none, none, none, some none]))
  refine G_aload_n (g_C_at C _ _ _ _ rfl) dX11_init_112 rfl 0 rfl ?_
  refine G_bipush (g_C_at C _ _ _ _ rfl) dX11_init_113 (v := 20) (by decide +kernel) ?_
  refine G_newI (g_C_at C _ _ _ _ rfl) aw_X11_init_int (N := 20) (by decide +kernel) rfl dX11_init_115 ?_
  have B := g_B_arr B (s := .inr (.inl 20)) rfl
  refine G_lts (fun σ14 => ?_)
  refine G_putF (g_C_at C _ _ _ _ rfl) q.2.2.1 (r := 91) ff_X11_init_49 (g_B_has B) (by decide) rfl rfl rfl dX11_init_117 ?_
  have B := g_B_put B (.inl (11, [some (some 78), some (some 79), some (some 80), none, none, none, none, some (some 81), none, none, some (some 82), some (some 83), some (some 84), some (some 85), some (some 86), some (some 87), some (some 88), none, some (some 89), none, some (some 90), none, some (some 91), none, none, none, some none]))
  refine G_aload_n (g_C_at C _ _ _ _ rfl) dX11_init_120 rfl 0 rfl ?_
  refine G_bipush (g_C_at C _ _ _ _ rfl) dX11_init_121 (v := 82) (by decide +kernel) ?_
  refine G_newI (g_C_at C _ _ _ _ rfl) aw_X11_init_int (N := 82) (by decide +kernel) rfl dX11_init_123 ?_
  have B := g_B_arr B (s := .inr (.inl 82)) rfl
  refine G_lts (fun σ15 => ?_)
  refine G_putF (g_C_at C _ _ _ _ rfl) q.2.2.1 (r := 92) ff_X11_init_52 (g_B_has B) (by decide) rfl rfl rfl dX11_init_125 ?_
  have B := g_B_put B (.inl (11, [some (some 78), some (some 79), some (some 80), none, none, none, none, some (some 81), none, none, some (some 82), some (some 83), some (some 84), some (some 85), some (some 86), some (some 87), some (some 88), none, some (some 89), none, some (some 90), none, some (some 91), none, none, none, some (some 92)]))
  refine G_aload_n (g_C_at C _ _ _ _ rfl) dX11_init_128 rfl 0 rfl ?_
  refine G_iconst (g_C_at C _ _ _ _ rfl) dX11_init_129 (v := -1) (by decide +kernel) ?_
  refine G_putI (g_C_at C _ _ _ _ rfl) p_X11_init_55 (g_B_has B) rfl rfl rfl dX11_init_130 ?_
  refine G_lts (fun σ16 => ?_)
  refine G_aload_n (g_C_at C _ _ _ _ rfl) dX11_init_133 rfl 0 rfl ?_
  refine G_callV (rest := []) (fun a ha => g_runV (g_C_at C _ _ _ _ rfl) (nargs := 0) (As := []) (rest := []) gX11_init_X11_plain rfl (by decide +kernel) rfl (g_B_has B) rfl rfl rfl rfl dX11_init_134 (k_m_X11_plain _ _ _ _ (g_B_ag B rfl (by decide +kernel)) N σ16 a ha)) (fun σ17 => ?_)
  refine G_aload_n (g_C_at C _ _ _ _ rfl) dX11_init_137 rfl 0 rfl ?_
  refine G_callV (rest := []) (fun a ha => g_runV (g_C_at C _ _ _ _ rfl) (nargs := 0) (As := []) (rest := []) gX11_init_X11_starts rfl (by decide +kernel) rfl (g_B_has B) rfl rfl rfl rfl dX11_init_138 (k_m_X11_starts _ _ _ _ (g_B_ag B rfl (by decide +kernel)) N σ17 a ha)) (fun σ18 => ?_)
  exact G_vretN (g_C_at C _ _ _ _ rfl) q (g_B_end B rfl) dX11_init_141
theorem k_m_X11_init_77 (l : Launch) (E : g_E) (T : Nat → g_Sh) (hT : g_has 78 T 77 (.inl (11, [some none, some none, some none, none, none, none, none, some none, none, none, some none, some none, some none, some none, some none, some none, some none, none, some none, none, some none, none, some none, none, none, none, some none]))) (N : Nat) (σ : g_St) (a : g_St) (h : m_X11_init_77 N σ = some a) : Met l yX11_init wsX11_init rm_m_X11_init_77 (va_Pc [.ref (E.2.1 + 77)] (fun U => g_Wd E 78 T σ U.heap ∧ g_K E U ∧ (fun _ => True) U)) (g_Qv E 93 (g_upT T 77 93) a) 15 2238 (g_A E) :=
  g_metN (by decide +kernel) rfl rfl rfl (Nat.le_of_ble_eq_true rfl) (fun M Qf C q hPx => by rw [← h]; exact w_m_X11_init_77 C q hT N σ)
