def L_m_X10_buy : List Nat := [0, 13, 14, 15, 16, 17, 18, 19, 20, 21, 59, 60, 61, 62]
abbrev rm_m_X10_buy : Room := { frames := 6, cells := 0, slots := 0, locals := 147 }
theorem f_X10_buy_147 : g_Fld wsX10_buy RX10 147 4 0 := ⟨RX4, TX4, 8, rfl, by decide +kernel, by decide, by decide +kernel⟩
theorem f_X10_buy_199 : g_Fld wsX10_buy RX10 199 7 1 := ⟨RX7, TX7, 6, rfl, by decide +kernel, by decide, by decide +kernel⟩
theorem f_X10_buy_23 : g_Fld wsX10_buy RX10 23 10 2 := ⟨RX10, TX10, 15, rfl, by decide +kernel, by decide, by decide +kernel⟩
theorem f_X10_buy_30 : g_Fld wsX10_buy RX10 30 10 3 := ⟨RX10, TX10, 15, rfl, by decide +kernel, by decide, by decide +kernel⟩
theorem c_X10_buy_167 : Cond.constant RX10 167 (-1000000001) ∈ wsX10_buy := by decide +kernel
theorem c_X10_buy_246 : Cond.constantLong RX10 246 (10000000) ∈ wsX10_buy := by decide +kernel
theorem c_X10_buy_96 : Cond.constant RX10 96 (-1000000002) ∈ wsX10_buy := by decide +kernel
set_option maxHeartbeats 4000000 in
set_option maxRecDepth 100000 in
theorem w_m_X10_buy_0 {X : g_X (Int32 × g_St)} (C : g_C X cX10_buy RX10 wsX10_buy rm_m_X10_buy 6) (q : g_qI X) (hA : g_ag L_m_X10_buy (g_n X) (g_T X)) (N : Nat) (x1 : Int32) (x2 : Int32) (x3 : Int32) (x4 : Int32) (σ : g_St) : G X 0 [(0, .ref (g_b X + 0)), (1, .int x1), (2, .int x2), (3, .int x3), (4, .int x4)] [] σ (m_X10_buy N x1 x2 x3 x4 σ) := by
  have t0 := g_ag_at hA (c := 0) rfl tc0
  have t13 := g_ag_at hA (c := 13) rfl tc13
  have t15 := g_ag_at hA (c := 15) rfl tc15
  have t16 := g_ag_at hA (c := 16) rfl tc16
  have t17 := g_ag_at hA (c := 17) rfl tc17
  unfold m_X10_buy
  refine G_aload_n C dX10_buy_0 rfl 0 rfl ?_
  refine G_iload_n C dX10_buy_1 rfl 1 rfl ?_
  refine G_callI (rest := []) (fun a ha => g_runV C (nargs := 1) (As := [.int x1]) (rest := []) gX10_buy_X10_isPerson rfl (by decide +kernel) rfl t0 rfl rfl rfl rfl dX10_buy_2 (k_m_X10_isPerson X.1.2.1 X.2.1 (g_n X) (g_T X) (g_ag_sub hA (by decide +kernel)) x1 σ a ha)) (fun q1 => ?_)
  refine G_if_ne C dX10_buy_5 (tgt := 11) (by decide) (fun c2 => ?_) (fun c2 => ?_)
  · refine G_ldc C dX10_buy_8 c_X10_buy_167 ?_
    exact G_iret C q dX10_buy_10
  · refine G_iload_n C dX10_buy_11 rfl 2 rfl ?_
    refine G_callI (rest := []) (fun a ha => g_runS C (nargs := 1) (As := [.int x2]) (rest := []) gX10_buy_X10_isRight rfl (by decide +kernel) rfl rfl rfl dX10_buy_12 (k_m_X10_isRight X.1.2.1 X.2.1 (g_n X) (g_T X) (g_ag_sub hA (by decide +kernel)) x2 q1.2 a ha)) (fun q3 => ?_)
    refine G_if_eq C dX10_buy_15 (tgt := 39) (by decide) (fun c4 => ?_) (fun c4 => ?_)
    · refine G_ldc C dX10_buy_39 c_X10_buy_96 ?_
      exact G_iret C q dX10_buy_41
    · refine G_iload_n C dX10_buy_18 rfl 3 rfl ?_
      refine G_if_lt C dX10_buy_19 (tgt := 39) (by decide) (fun c5 => ?_) (fun c5 => ?_)
      · refine G_ldc C dX10_buy_39 c_X10_buy_96 ?_
        exact G_iret C q dX10_buy_41
      · refine G_iload_n C dX10_buy_22 rfl 3 rfl ?_
        refine G_bipush C dX10_buy_23 (v := 100) (by decide +kernel) ?_
        refine G_icmp_gt C dX10_buy_25 (tgt := 39) (by decide) (fun c6 => ?_) (fun c6 => ?_)
        · refine G_ldc C dX10_buy_39 c_X10_buy_96 ?_
          exact G_iret C q dX10_buy_41
        · refine G_iload C dX10_buy_28 4 rfl ?_
          refine G_if_lt C dX10_buy_30 (tgt := 39) (by decide) (fun c7 => ?_) (fun c7 => ?_)
          · refine G_ldc C dX10_buy_39 c_X10_buy_96 ?_
            exact G_iret C q dX10_buy_41
          · refine G_iload C dX10_buy_33 4 rfl ?_
            refine G_iconst C dX10_buy_35 (v := 1) (by decide +kernel) ?_
            refine G_icmp_le C dX10_buy_36 (tgt := 42) (by decide) (fun c8 => ?_) (fun c8 => ?_)
            · refine G_aload_n C dX10_buy_42 rfl 0 rfl ?_
              refine G_iload_n C dX10_buy_43 rfl 1 rfl ?_
              refine G_aload_n C dX10_buy_44 rfl 0 rfl ?_
              refine G_getR C f_X10_buy_23 t0 rfl dX10_buy_45 ?_
              refine G_getR C f_X10_buy_199 t13 rfl dX10_buy_48 ?_
              refine G_iload_n C dX10_buy_51 rfl 2 rfl ?_
              refine G_chk (fun h9 => ?_)
              refine G_ald C t15 h9 dX10_buy_52 ?_
              refine G_aload_n C dX10_buy_53 rfl 0 rfl ?_
              refine G_getR C f_X10_buy_30 t0 rfl dX10_buy_54 ?_
              refine G_getR C f_X10_buy_147 t16 rfl dX10_buy_57 ?_
              refine G_iload_n C dX10_buy_60 rfl 1 rfl ?_
              refine G_chk (fun h10 => ?_)
              refine G_ald C t17 h10 dX10_buy_61 ?_
              refine G_isub C dX10_buy_62 ?_
              refine G_ldc2 C dX10_buy_63 c_X10_buy_246 ?_
              refine G_iload_n C dX10_buy_66 rfl 3 rfl ?_
              refine G_i2l C dX10_buy_67 ?_
              refine G_lmul C dX10_buy_68 ?_
              refine G_callI (rest := []) (fun a ha => g_runV C (nargs := 3) (As := [.int x1, .int ((q3.2.1 15 x2.toNatClampNeg) - (q3.2.1 17 x1.toNatClampNeg)), .long ((10000000 : Int64) * (x3).toInt64)]) (rest := []) gX10_buy_X10_cheapest rfl (by decide +kernel) rfl t0 rfl rfl rfl rfl dX10_buy_69 (k_m_X10_cheapest X.1.2.1 X.2.1 (g_n X) (g_T X) (g_ag_sub hA (by decide +kernel)) N x1 ((q3.2.1 15 x2.toNatClampNeg) - (q3.2.1 17 x1.toNatClampNeg)) ((10000000 : Int64) * (x3).toInt64) q3.2 a ha)) (fun q11 => ?_)
              refine G_istore C dX10_buy_72 rfl (lv' := [(5, .int q11.1), (0, .ref (g_b X + 0)), (1, .int x1), (2, .int x2), (3, .int x3), (4, .int x4)]) rfl ?_
              refine G_iload C dX10_buy_74 0 rfl ?_
              refine G_iconst C dX10_buy_76 (v := -1) (by decide +kernel) ?_
              refine G_icmp_eq C dX10_buy_77 (tgt := 86) (by decide) (fun c12 => ?_) (fun c12 => ?_)
              · refine G_iload C dX10_buy_86 0 rfl ?_
                exact G_iret C q dX10_buy_88
              · refine G_iload C dX10_buy_80 5 rfl ?_
                refine G_iconst C dX10_buy_82 (v := 1) (by decide +kernel) ?_
                refine G_icmp_ne C dX10_buy_83 (tgt := 89) (by decide) (fun c13 => ?_) (fun c13 => ?_)
                · refine G_iload C dX10_buy_86 0 rfl ?_
                  exact G_iret C q dX10_buy_88
                · refine G_aload_n C dX10_buy_89 rfl 1 rfl ?_
                  refine G_getR C f_X10_buy_30 t0 rfl dX10_buy_90 ?_
                  refine G_iload C dX10_buy_93 0 rfl ?_
                  refine G_callI (rest := []) (fun a ha => g_runV C (nargs := 1) (As := [.int q11.1]) (rest := []) gX10_buy_X4_priceOf rfl (by decide +kernel) rfl t16 rfl rfl rfl rfl dX10_buy_95 (k_m_X4_priceOf X.1.2.1 X.2.1 (g_n X) (g_T X) (g_ag_sub hA (by decide +kernel)) N q11.1 q11.2 a ha)) (fun q14 => ?_)
                  exact G_iret C q dX10_buy_98
            · refine G_ldc C dX10_buy_39 c_X10_buy_96 ?_
              exact G_iret C q dX10_buy_41
theorem k_m_X10_buy (l : Launch) (E : g_E) (n : Nat) (T : Nat → g_Sh) (hA : g_ag L_m_X10_buy n T) (N : Nat) (x1 : Int32) (x2 : Int32) (x3 : Int32) (x4 : Int32) (σ : g_St) (a : Int32 × g_St) (h : m_X10_buy N x1 x2 x3 x4 σ = some a) : Met l yX10_buy wsX10_buy rm_m_X10_buy (g_Pc E n T [.ref (E.2.1 + 0), .int x1, .int x2, .int x3, .int x4] σ) (g_Qi E n T a) 0 0 (g_A E) :=
  g_metI (by decide +kernel) rfl rfl (Nat.le_of_ble_eq_true rfl) (fun M Qf C q => by rw [← h]; exact w_m_X10_buy_0 C q hA N x1 x2 x3 x4 σ)
def L_m_X10_spreadOf_76 : List Nat := [76]
abbrev rm_m_X10_spreadOf_76 : Room := { frames := 1, cells := 0, slots := 0, locals := 30 }
set_option maxHeartbeats 4000000 in
set_option maxRecDepth 100000 in
theorem w_m_X10_spreadOf_76_18 {X : g_X (Int32 × g_St)} (C : g_C X cX10_spreadOf RX10 wsX10_spreadOf rm_m_X10_spreadOf_76 5) (q : g_qI X) (hA : g_ag L_m_X10_spreadOf_76 (g_n X) (g_T X)) (N : Nat) : ∀ (fu : Nat) (x1 : Int32) (x2 : Int32) (x3 : Int32) (x4 : Int32) (σ : g_St), G X 18 [(0, .ref (g_b X + 76)), (1, .int x1), (2, .int x2), (3, .int x3), (4, .int x4)] [] σ (m_X10_spreadOf_76_18 N fu x1 x2 x3 x4 σ) := by
  have t76 := g_ag_at hA (c := 76) rfl tc76
  intro fu
  induction fu with
  | zero => intro x1 x2 x3 x4 σ; exact G_none
  | succ fu ih =>
    intro x1 x2 x3 x4 σ
    unfold m_X10_spreadOf_76_18
    refine G_iload C dX10_spreadOf_18 4 rfl ?_
    refine G_iload_n C dX10_spreadOf_20 rfl 1 rfl ?_
    refine G_icmp_ge C dX10_spreadOf_21 (tgt := 48) (by decide) (fun c1 => ?_) (fun c1 => ?_)
    · refine G_iload_n C dX10_spreadOf_48 rfl 3 rfl ?_
      refine G_iload_n C dX10_spreadOf_49 rfl 2 rfl ?_
      refine G_isub C dX10_spreadOf_50 ?_
      exact G_iret C q dX10_spreadOf_51
    · refine G_iload_n C dX10_spreadOf_24 rfl 2 rfl ?_
      refine G_aload_n C dX10_spreadOf_25 rfl 0 rfl ?_
      refine G_iload C dX10_spreadOf_26 4 rfl ?_
      refine G_chk (fun h2 => ?_)
      refine G_ald C t76 h2 dX10_spreadOf_28 ?_
      refine G_mmin C w_X10_spreadOf_220 rfl dX10_spreadOf_29 ?_
      refine G_lti (fun v3 => ?_)
      refine G_istore_n C dX10_spreadOf_32 rfl rfl (lv' := [(2, .int v3), (0, .ref (g_b X + 76)), (1, .int x1), (3, .int x3), (4, .int x4)]) rfl ?_
      refine G_iload_n C dX10_spreadOf_33 rfl 3 rfl ?_
      refine G_aload_n C dX10_spreadOf_34 rfl 1 rfl ?_
      refine G_iload C dX10_spreadOf_35 4 rfl ?_
      refine G_chk (fun h4 => ?_)
      refine G_ald C t76 h4 dX10_spreadOf_37 ?_
      refine G_mmax C w_X10_spreadOf_327 rfl dX10_spreadOf_38 ?_
      refine G_lti (fun v5 => ?_)
      refine G_istore_n C dX10_spreadOf_41 rfl rfl (lv' := [(3, .int v5), (2, .int v3), (0, .ref (g_b X + 76)), (1, .int x1), (4, .int x4)]) rfl ?_
      refine G_iinc C dX10_spreadOf_42 4 rfl (v := (x4 + (1 : Int32))) (by rfl) rfl (lv' := [(4, .int (x4 + (1 : Int32))), (3, .int v5), (2, .int v3), (0, .ref (g_b X + 76)), (1, .int x1)]) rfl ?_
      refine G_ltv (fun v => [(4, .int v), (3, .int v5), (2, .int v3), (0, .ref (g_b X + 76)), (1, .int x1)]) (fun v6 => ?_)
      refine G_goto C dX10_spreadOf_45 (tgt := 18) (by decide) ?_
      exact G_sub (ih x1 v3 v5 v6 σ) [3, 4, 2, 1, 0] rfl
set_option maxHeartbeats 4000000 in
set_option maxRecDepth 100000 in
theorem w_m_X10_spreadOf_76_0 {X : g_X (Int32 × g_St)} (C : g_C X cX10_spreadOf RX10 wsX10_spreadOf rm_m_X10_spreadOf_76 5) (q : g_qI X) (hA : g_ag L_m_X10_spreadOf_76 (g_n X) (g_T X)) (N : Nat) (x1 : Int32) (σ : g_St) : G X 0 [(0, .ref (g_b X + 76)), (1, .int x1)] [] σ (m_X10_spreadOf_76 N x1 σ) := by
  have t76 := g_ag_at hA (c := 76) rfl tc76
  unfold m_X10_spreadOf_76
  refine G_iload_n C dX10_spreadOf_0 rfl 1 rfl ?_
  refine G_iconst C dX10_spreadOf_1 (v := 1) (by decide +kernel) ?_
  refine G_icmp_ge C dX10_spreadOf_2 (tgt := 7) (by decide) (fun c1 => ?_) (fun c1 => ?_)
  · refine G_aload_n C dX10_spreadOf_7 rfl 0 rfl ?_
    refine G_iconst C dX10_spreadOf_8 (v := 0) (by decide +kernel) ?_
    refine G_aldk C t76 (by decide +kernel) (k := 0) rfl dX10_spreadOf_9 ?_
    refine G_lti (fun v2 => ?_)
    refine G_istore_n C dX10_spreadOf_10 rfl rfl (lv' := [(2, .int v2), (0, .ref (g_b X + 76)), (1, .int x1)]) rfl ?_
    refine G_aload_n C dX10_spreadOf_11 rfl 1 rfl ?_
    refine G_iconst C dX10_spreadOf_12 (v := 0) (by decide +kernel) ?_
    refine G_aldk C t76 (by decide +kernel) (k := 0) rfl dX10_spreadOf_13 ?_
    refine G_lti (fun v3 => ?_)
    refine G_istore_n C dX10_spreadOf_14 rfl rfl (lv' := [(3, .int v3), (2, .int v2), (0, .ref (g_b X + 76)), (1, .int x1)]) rfl ?_
    refine G_iconst C dX10_spreadOf_15 (v := 1) (by decide +kernel) ?_
    refine G_istore C dX10_spreadOf_16 rfl (lv' := [(4, .int (1 : Int32)), (3, .int v3), (2, .int v2), (0, .ref (g_b X + 76)), (1, .int x1)]) rfl ?_
    exact G_sub (w_m_X10_spreadOf_76_18 C q hA N N x1 v2 v3 (1 : Int32) σ) [3, 4, 2, 1, 0] rfl
  · refine G_iconst C dX10_spreadOf_5 (v := 0) (by decide +kernel) ?_
    exact G_iret C q dX10_spreadOf_6
theorem k_m_X10_spreadOf_76 (l : Launch) (E : g_E) (n : Nat) (T : Nat → g_Sh) (hA : g_ag L_m_X10_spreadOf_76 n T) (N : Nat) (x1 : Int32) (σ : g_St) (a : Int32 × g_St) (h : m_X10_spreadOf_76 N x1 σ = some a) : Met l yX10_spreadOf wsX10_spreadOf rm_m_X10_spreadOf_76 (g_Pc E n T [.ref (E.2.1 + 76), .int x1] σ) (g_Qi E n T a) 0 0 (g_A E) :=
  g_metI (by decide +kernel) rfl rfl (Nat.le_of_ble_eq_true rfl) (fun M Qf C q => by rw [← h]; exact w_m_X10_spreadOf_76_0 C q hA N x1 σ)
def L_m_X10_spreadAfter : List Nat := [0, 13, 14, 16, 17, 19, 20, 76]
abbrev rm_m_X10_spreadAfter : Room := { frames := 2, cells := 0, slots := 0, locals := 60 }
theorem f_X10_spreadAfter_121 : g_Fld wsX10_spreadAfter RX10 121 7 2 := ⟨RX7, TX7, 6, rfl, by decide +kernel, by decide, by decide +kernel⟩
theorem f_X10_spreadAfter_133 : g_Fld wsX10_spreadAfter RX10 133 7 4 := ⟨RX7, TX7, 6, rfl, by decide +kernel, by decide, by decide +kernel⟩
theorem f_X10_spreadAfter_147 : g_Fld wsX10_spreadAfter RX10 147 4 0 := ⟨RX4, TX4, 8, rfl, by decide +kernel, by decide, by decide +kernel⟩
theorem f_X10_spreadAfter_23 : g_Fld wsX10_spreadAfter RX10 23 10 2 := ⟨RX10, TX10, 15, rfl, by decide +kernel, by decide, by decide +kernel⟩
theorem f_X10_spreadAfter_30 : g_Fld wsX10_spreadAfter RX10 30 10 3 := ⟨RX10, TX10, 15, rfl, by decide +kernel, by decide, by decide +kernel⟩
theorem f_X10_spreadAfter_83 : g_Fld wsX10_spreadAfter RX10 83 10 11 := ⟨RX10, TX10, 15, rfl, by decide +kernel, by decide, by decide +kernel⟩
theorem f_X10_spreadAfter_93 : g_Fld wsX10_spreadAfter RX10 93 10 14 := ⟨RX10, TX10, 15, rfl, by decide +kernel, by decide, by decide +kernel⟩
theorem w_X10_spreadAfter_346 : g_cw wsX10_spreadAfter RX10 346 := ⟨by decide +kernel, by decide +kernel, by decide +kernel, by decide +kernel⟩
set_option maxHeartbeats 4000000 in
set_option maxRecDepth 100000 in
theorem w_m_X10_spreadAfter_157 {X : g_X (Int32 × g_St)} (C : g_C X cX10_spreadAfter RX10 wsX10_spreadAfter rm_m_X10_spreadAfter 9) (q : g_qI X) (hA : g_ag L_m_X10_spreadAfter (g_n X) (g_T X)) (k26 : Int32 → Int32 → Int32 → Int32 → g_St → Option (Int32 × g_St)) (hk26 : ∀ (x1 : Int32) (x2 : Int32) (x3 : Int32) (x4 : Int32) (σ : g_St), G X 26 [(0, .ref (g_b X + 0)), (1, .int x1), (2, .int x2), (3, .int x3), (4, .int x4)] [] σ (k26 x1 x2 x3 x4 σ)) (N : Nat) (x1 : Int32) (x2 : Int32) (x3 : Int32) (x4 : Int32) (σ : g_St) : G X 157 [(0, .ref (g_b X + 0)), (1, .int x1), (2, .int x2), (3, .int x3), (4, .int x4)] [] σ (m_X10_spreadAfter_157 k26 N x1 x2 x3 x4 σ) := by
  unfold m_X10_spreadAfter_157
  refine G_iinc C dX10_spreadAfter_157 4 rfl (v := (x4 + (1 : Int32))) (by rfl) rfl (lv' := [(4, .int (x4 + (1 : Int32))), (0, .ref (g_b X + 0)), (1, .int x1), (2, .int x2), (3, .int x3)]) rfl ?_
  refine G_ltv (fun v => [(4, .int v), (0, .ref (g_b X + 0)), (1, .int x1), (2, .int x2), (3, .int x3)]) (fun v1 => ?_)
  refine G_goto C dX10_spreadAfter_160 (tgt := 26) (by decide) ?_
  exact G_sub (hk26 x1 x2 x3 v1 σ) [1, 2, 3, 4, 0] rfl
set_option maxHeartbeats 4000000 in
set_option maxRecDepth 100000 in
theorem w_m_X10_spreadAfter_151 {X : g_X (Int32 × g_St)} (C : g_C X cX10_spreadAfter RX10 wsX10_spreadAfter rm_m_X10_spreadAfter 9) (q : g_qI X) (hA : g_ag L_m_X10_spreadAfter (g_n X) (g_T X)) (k26 : Int32 → Int32 → Int32 → Int32 → g_St → Option (Int32 × g_St)) (hk26 : ∀ (x1 : Int32) (x2 : Int32) (x3 : Int32) (x4 : Int32) (σ : g_St), G X 26 [(0, .ref (g_b X + 0)), (1, .int x1), (2, .int x2), (3, .int x3), (4, .int x4)] [] σ (k26 x1 x2 x3 x4 σ)) (k44 : Int32 → Int32 → Int32 → Int32 → Int32 → Int32 → g_St → Option (Int32 × g_St)) (hk44 : ∀ (x1 : Int32) (x2 : Int32) (x3 : Int32) (x4 : Int32) (x5 : Int32) (x6 : Int32) (σ : g_St), G X 44 [(0, .ref (g_b X + 0)), (1, .int x1), (2, .int x2), (3, .int x3), (4, .int x4), (5, .int x5), (6, .int x6)] [] σ (k44 x1 x2 x3 x4 x5 x6 σ)) (N : Nat) (x1 : Int32) (x2 : Int32) (x3 : Int32) (x4 : Int32) (x5 : Int32) (x6 : Int32) (σ : g_St) : G X 151 [(0, .ref (g_b X + 0)), (1, .int x1), (2, .int x2), (3, .int x3), (4, .int x4), (5, .int x5), (6, .int x6)] [] σ (m_X10_spreadAfter_151 k26 k44 N x1 x2 x3 x4 x5 x6 σ) := by
  unfold m_X10_spreadAfter_151
  refine G_iinc C dX10_spreadAfter_151 6 rfl (v := (x6 + (1 : Int32))) (by rfl) rfl (lv' := [(6, .int (x6 + (1 : Int32))), (0, .ref (g_b X + 0)), (1, .int x1), (2, .int x2), (3, .int x3), (4, .int x4), (5, .int x5)]) rfl ?_
  refine G_ltv (fun v => [(6, .int v), (0, .ref (g_b X + 0)), (1, .int x1), (2, .int x2), (3, .int x3), (4, .int x4), (5, .int x5)]) (fun v1 => ?_)
  refine G_goto C dX10_spreadAfter_154 (tgt := 44) (by decide) ?_
  exact G_sub (hk44 x1 x2 x3 x4 x5 v1 σ) [1, 2, 3, 4, 5, 6, 0] rfl
set_option maxHeartbeats 4000000 in
set_option maxRecDepth 100000 in
theorem w_m_X10_spreadAfter_127 {X : g_X (Int32 × g_St)} (C : g_C X cX10_spreadAfter RX10 wsX10_spreadAfter rm_m_X10_spreadAfter 9) (q : g_qI X) (hA : g_ag L_m_X10_spreadAfter (g_n X) (g_T X)) (k26 : Int32 → Int32 → Int32 → Int32 → g_St → Option (Int32 × g_St)) (hk26 : ∀ (x1 : Int32) (x2 : Int32) (x3 : Int32) (x4 : Int32) (σ : g_St), G X 26 [(0, .ref (g_b X + 0)), (1, .int x1), (2, .int x2), (3, .int x3), (4, .int x4)] [] σ (k26 x1 x2 x3 x4 σ)) (k44 : Int32 → Int32 → Int32 → Int32 → Int32 → Int32 → g_St → Option (Int32 × g_St)) (hk44 : ∀ (x1 : Int32) (x2 : Int32) (x3 : Int32) (x4 : Int32) (x5 : Int32) (x6 : Int32) (σ : g_St), G X 44 [(0, .ref (g_b X + 0)), (1, .int x1), (2, .int x2), (3, .int x3), (4, .int x4), (5, .int x5), (6, .int x6)] [] σ (k44 x1 x2 x3 x4 x5 x6 σ)) (N : Nat) (x1 : Int32) (x2 : Int32) (x3 : Int32) (x4 : Int32) (x5 : Int32) (x6 : Int32) (x7 : Int32) (σ : g_St) : G X 127 [(0, .ref (g_b X + 0)), (1, .int x1), (2, .int x2), (3, .int x3), (4, .int x4), (5, .int x5), (6, .int x6), (7, .int x7)] [] σ (m_X10_spreadAfter_127 k26 k44 N x1 x2 x3 x4 x5 x6 x7 σ) := by
  have t0 := g_ag_at hA (c := 0) rfl tc0
  unfold m_X10_spreadAfter_127
  refine G_iload_n C dX10_spreadAfter_127 rfl 2 rfl ?_
  refine G_if_ne C dX10_spreadAfter_128 (tgt := 151) (by decide) (fun c1 => ?_) (fun c1 => ?_)
  · refine G_aload_n C dX10_spreadAfter_131 rfl 0 rfl ?_
    refine G_iload C dX10_spreadAfter_132 7 rfl ?_
    refine G_callI (rest := []) (fun a ha => g_runV C (nargs := 1) (As := [.int x7]) (rest := []) gX10_spreadAfter_X10_isTicket rfl (by decide +kernel) rfl t0 rfl rfl rfl rfl dX10_spreadAfter_134 (k_m_X10_isTicket X.1.2.1 X.2.1 (g_n X) (g_T X) (g_ag_sub hA (by decide +kernel)) x7 σ a ha)) (fun q2 => ?_)
    refine G_if_eq C dX10_spreadAfter_137 (tgt := 151) (by decide) (fun c3 => ?_) (fun c3 => ?_)
    · exact G_sub (w_m_X10_spreadAfter_151 C q hA k26 hk26 k44 hk44 N x1 x2 x3 x4 x5 x6 q2.2) [0, 1, 2, 3, 4, 5, 6] rfl
    · refine G_iload C dX10_spreadAfter_140 5 rfl ?_
      refine G_iconst C dX10_spreadAfter_142 (v := 1) (by decide +kernel) ?_
      refine G_iload C dX10_spreadAfter_143 7 rfl ?_
      refine G_ishl C dX10_spreadAfter_145 ?_
      refine G_iconst C dX10_spreadAfter_146 (v := -1) (by decide +kernel) ?_
      refine G_ixor C dX10_spreadAfter_147 ?_
      refine G_iand C dX10_spreadAfter_148 ?_
      refine G_lti (fun v4 => ?_)
      refine G_istore C dX10_spreadAfter_149 rfl (lv' := [(5, .int v4), (0, .ref (g_b X + 0)), (1, .int x1), (2, .int x2), (3, .int x3), (4, .int x4), (6, .int x6), (7, .int x7)]) rfl ?_
      exact G_sub (w_m_X10_spreadAfter_151 C q hA k26 hk26 k44 hk44 N x1 x2 x3 x4 v4 x6 q2.2) [1, 2, 3, 4, 5, 0, 6] rfl
  · exact G_sub (w_m_X10_spreadAfter_151 C q hA k26 hk26 k44 hk44 N x1 x2 x3 x4 x5 x6 σ) [0, 1, 2, 3, 4, 5, 6] rfl
set_option maxHeartbeats 4000000 in
set_option maxRecDepth 100000 in
theorem w_m_X10_spreadAfter_44 {X : g_X (Int32 × g_St)} (C : g_C X cX10_spreadAfter RX10 wsX10_spreadAfter rm_m_X10_spreadAfter 9) (q : g_qI X) (hA : g_ag L_m_X10_spreadAfter (g_n X) (g_T X)) (k26 : Int32 → Int32 → Int32 → Int32 → g_St → Option (Int32 × g_St)) (hk26 : ∀ (x1 : Int32) (x2 : Int32) (x3 : Int32) (x4 : Int32) (σ : g_St), G X 26 [(0, .ref (g_b X + 0)), (1, .int x1), (2, .int x2), (3, .int x3), (4, .int x4)] [] σ (k26 x1 x2 x3 x4 σ)) (N : Nat) : ∀ (fu : Nat) (x1 : Int32) (x2 : Int32) (x3 : Int32) (x4 : Int32) (x5 : Int32) (x6 : Int32) (σ : g_St), G X 44 [(0, .ref (g_b X + 0)), (1, .int x1), (2, .int x2), (3, .int x3), (4, .int x4), (5, .int x5), (6, .int x6)] [] σ (m_X10_spreadAfter_44 k26 N fu x1 x2 x3 x4 x5 x6 σ) := by
  have t0 := g_ag_at hA (c := 0) rfl tc0
  have t13 := g_ag_at hA (c := 13) rfl tc13
  have t16 := g_ag_at hA (c := 16) rfl tc16
  have t76 := g_ag_at hA (c := 76) rfl tc76
  intro fu
  induction fu with
  | zero => intro x1 x2 x3 x4 x5 x6 σ; exact G_none
  | succ fu ih =>
    intro x1 x2 x3 x4 x5 x6 σ
    unfold m_X10_spreadAfter_44
    refine G_iload C dX10_spreadAfter_44 6 rfl ?_
    refine G_aload_n C dX10_spreadAfter_46 rfl 0 rfl ?_
    refine G_getR C f_X10_spreadAfter_23 t0 rfl dX10_spreadAfter_47 ?_
    refine G_getI C f_X10_spreadAfter_133 t13 rfl dX10_spreadAfter_50 ?_
    refine G_icmp_ge C dX10_spreadAfter_53 (tgt := 157) (by decide) (fun c1 => ?_) (fun c1 => ?_)
    · exact G_sub (w_m_X10_spreadAfter_157 C q hA k26 hk26 N x1 x2 x3 x4 σ) [0, 1, 2, 3, 4] rfl
    · refine G_iload C dX10_spreadAfter_56 5 rfl ?_
      refine G_if_eq C dX10_spreadAfter_58 (tgt := 157) (by decide) (fun c2 => ?_) (fun c2 => ?_)
      · exact G_sub (w_m_X10_spreadAfter_157 C q hA k26 hk26 N x1 x2 x3 x4 σ) [0, 1, 2, 3, 4] rfl
      · refine G_iload_n C dX10_spreadAfter_61 rfl 3 rfl ?_
        refine G_callI (rest := []) (fun a ha => g_runS C (nargs := 1) (As := [.int x3]) (rest := []) gX10_spreadAfter_X10_nextSeed rfl (by decide +kernel) rfl rfl rfl dX10_spreadAfter_62 (k_m_X10_nextSeed X.1.2.1 X.2.1 (g_n X) (g_T X) (g_ag_sub hA (by decide +kernel)) x3 σ a ha)) (fun q3 => ?_)
        refine G_istore_n C dX10_spreadAfter_65 rfl rfl (lv' := [(3, .int q3.1), (0, .ref (g_b X + 0)), (1, .int x1), (2, .int x2), (4, .int x4), (5, .int x5), (6, .int x6)]) rfl ?_
        refine G_aload_n C dX10_spreadAfter_66 rfl 1 rfl ?_
        refine G_getR C f_X10_spreadAfter_23 t0 rfl dX10_spreadAfter_67 ?_
        refine G_iload C dX10_spreadAfter_70 5 rfl ?_
        refine G_iload_n C dX10_spreadAfter_72 rfl 0 rfl ?_
        refine G_aload_n C dX10_spreadAfter_73 rfl 1 rfl ?_
        refine G_getR C f_X10_spreadAfter_23 t0 rfl dX10_spreadAfter_74 ?_
        refine G_iload C dX10_spreadAfter_77 5 rfl ?_
        refine G_callI (rest := [.int q3.1, .int x5, .ref (g_b X + 13)]) (fun a ha => g_runV C (nargs := 1) (As := [.int x5]) (rest := [.int q3.1, .int x5, .ref (g_b X + 13)]) gX10_spreadAfter_X7_weightOf rfl (by decide +kernel) rfl t13 rfl rfl rfl rfl dX10_spreadAfter_79 (k_m_X7_weightOf X.1.2.1 X.2.1 (g_n X) (g_T X) (g_ag_sub hA (by decide +kernel)) N x5 q3.2 a ha)) (fun q4 => ?_)
        refine G_callI (rest := [.int x5, .ref (g_b X + 13)]) (fun a ha => g_runS C (nargs := 2) (As := [.int q3.1, .int q4.1]) (rest := [.int x5, .ref (g_b X + 13)]) gX10_spreadAfter_X10_lotOf rfl (by decide +kernel) rfl rfl rfl dX10_spreadAfter_82 (k_m_X10_lotOf X.1.2.1 X.2.1 (g_n X) (g_T X) (g_ag_sub hA (by decide +kernel)) q3.1 q4.1 q4.2 a ha)) (fun q5 => ?_)
        refine G_callI (rest := []) (fun a ha => g_runV C (nargs := 2) (As := [.int x5, .int q5.1]) (rest := []) gX10_spreadAfter_X7_ticketAt rfl (by decide +kernel) rfl t13 rfl rfl rfl rfl dX10_spreadAfter_85 (k_m_X7_ticketAt X.1.2.1 X.2.1 (g_n X) (g_T X) (g_ag_sub hA (by decide +kernel)) N x5 q5.1 q5.2 a ha)) (fun q6 => ?_)
        refine G_istore C dX10_spreadAfter_88 rfl (lv' := [(7, .int q6.1), (3, .int q3.1), (0, .ref (g_b X + 0)), (1, .int x1), (2, .int x2), (4, .int x4), (5, .int x5), (6, .int x6)]) rfl ?_
        refine G_aload_n C dX10_spreadAfter_90 rfl 2 rfl ?_
        refine G_getR C f_X10_spreadAfter_30 t0 rfl dX10_spreadAfter_91 ?_
        refine G_iload C dX10_spreadAfter_94 0 rfl ?_
        refine G_callI (rest := []) (fun a ha => g_runV C (nargs := 1) (As := [.int q6.1]) (rest := []) gX10_spreadAfter_X4_whoAges rfl (by decide +kernel) rfl t16 rfl rfl rfl rfl dX10_spreadAfter_96 (k_m_X4_whoAges X.1.2.1 X.2.1 (g_n X) (g_T X) (g_ag_sub hA (by decide +kernel)) q6.1 q6.2 a ha)) (fun q7 => ?_)
        refine G_istore C dX10_spreadAfter_99 rfl (lv' := [(8, .int q7.1), (7, .int q6.1), (3, .int q3.1), (0, .ref (g_b X + 0)), (1, .int x1), (2, .int x2), (4, .int x4), (5, .int x5), (6, .int x6)]) rfl ?_
        refine G_aload_n C dX10_spreadAfter_101 rfl 3 rfl ?_
        refine G_iload C dX10_spreadAfter_102 0 rfl ?_
        refine G_callI (rest := []) (fun a ha => g_runV C (nargs := 1) (As := [.int q7.1]) (rest := []) gX10_spreadAfter_X10_isPerson rfl (by decide +kernel) rfl t0 rfl rfl rfl rfl dX10_spreadAfter_104 (k_m_X10_isPerson X.1.2.1 X.2.1 (g_n X) (g_T X) (g_ag_sub hA (by decide +kernel)) q7.1 q7.2 a ha)) (fun q8 => ?_)
        refine G_if_eq C dX10_spreadAfter_107 (tgt := 127) (by decide) (fun c9 => ?_) (fun c9 => ?_)
        · exact G_sub (w_m_X10_spreadAfter_127 C q hA k26 hk26 (m_X10_spreadAfter_44 k26 N fu) ih N x1 x2 q3.1 x4 x5 x6 q6.1 q8.2) [3, 4, 5, 2, 6, 7, 8, 1] rfl
        · refine G_aload_n C dX10_spreadAfter_110 rfl 3 rfl ?_
          refine G_getR C f_X10_spreadAfter_83 t0 rfl dX10_spreadAfter_111 ?_
          refine G_iload C dX10_spreadAfter_114 0 rfl ?_
          refine G_aload_n C dX10_spreadAfter_116 rfl 3 rfl ?_
          refine G_getR C f_X10_spreadAfter_83 t0 rfl dX10_spreadAfter_117 ?_
          refine G_iload C dX10_spreadAfter_120 0 rfl ?_
          refine G_chk (fun h10 => ?_)
          refine G_ald C t76 h10 dX10_spreadAfter_122 ?_
          refine G_callI (rest := [.int q7.1, .ref (g_b X + 76)]) (fun a ha => g_runS C (nargs := 1) (As := [.int (q8.2.1 76 q7.1.toNatClampNeg)]) (rest := [.int q7.1, .ref (g_b X + 76)]) gX10_spreadAfter_X10_older rfl (by decide +kernel) rfl rfl rfl dX10_spreadAfter_123 (k_m_X10_older X.1.2.1 X.2.1 (g_n X) (g_T X) (g_ag_sub hA (by decide +kernel)) (q8.2.1 76 q7.1.toNatClampNeg) q8.2 a ha)) (fun q11 => ?_)
          refine G_chk (fun h12 => ?_)
          refine G_ast C t76 h12 dX10_spreadAfter_126 ?_
          refine G_lts (fun σ13 => ?_)
          exact G_sub (w_m_X10_spreadAfter_127 C q hA k26 hk26 (m_X10_spreadAfter_44 k26 N fu) ih N x1 x2 q3.1 x4 x5 x6 q6.1 σ13) [3, 4, 5, 2, 6, 7, 8, 1] rfl
set_option maxHeartbeats 4000000 in
set_option maxRecDepth 100000 in
theorem w_m_X10_spreadAfter_26 {X : g_X (Int32 × g_St)} (C : g_C X cX10_spreadAfter RX10 wsX10_spreadAfter rm_m_X10_spreadAfter 9) (q : g_qI X) (hA : g_ag L_m_X10_spreadAfter (g_n X) (g_T X)) (N : Nat) : ∀ (fu : Nat) (x1 : Int32) (x2 : Int32) (x3 : Int32) (x4 : Int32) (σ : g_St), G X 26 [(0, .ref (g_b X + 0)), (1, .int x1), (2, .int x2), (3, .int x3), (4, .int x4)] [] σ (m_X10_spreadAfter_26 N fu x1 x2 x3 x4 σ) := by
  have t0 := g_ag_at hA (c := 0) rfl tc0
  have t13 := g_ag_at hA (c := 13) rfl tc13
  intro fu
  induction fu with
  | zero => intro x1 x2 x3 x4 σ; exact G_none
  | succ fu ih =>
    intro x1 x2 x3 x4 σ
    unfold m_X10_spreadAfter_26
    refine G_iload C dX10_spreadAfter_26 4 rfl ?_
    refine G_iload_n C dX10_spreadAfter_28 rfl 1 rfl ?_
    refine G_icmp_ge C dX10_spreadAfter_29 (tgt := 163) (by decide) (fun c1 => ?_) (fun c1 => ?_)
    · refine G_aload_n C dX10_spreadAfter_163 rfl 0 rfl ?_
      refine G_getR C f_X10_spreadAfter_83 t0 rfl dX10_spreadAfter_164 ?_
      refine G_aload_n C dX10_spreadAfter_167 rfl 0 rfl ?_
      refine G_getR C f_X10_spreadAfter_23 t0 rfl dX10_spreadAfter_168 ?_
      refine G_getI C f_X10_spreadAfter_121 t13 rfl dX10_spreadAfter_171 ?_
      refine G_callI (rest := []) (fun a ha => g_runS C (nargs := 2) (As := [.ref (g_b X + 76), .int (σ.1 13 2)]) (rest := []) gX10_spreadAfter_X10_spreadOf rfl (by decide +kernel) rfl rfl rfl dX10_spreadAfter_174 (k_m_X10_spreadOf_76 X.1.2.1 X.2.1 (g_n X) (g_T X) (g_ag_sub hA (by decide +kernel)) N (σ.1 13 2) σ a ha)) (fun q2 => ?_)
      exact G_iret C q dX10_spreadAfter_177
    · refine G_aload_n C dX10_spreadAfter_32 rfl 0 rfl ?_
      refine G_getR C f_X10_spreadAfter_23 t0 rfl dX10_spreadAfter_33 ?_
      refine G_callI (rest := []) (fun a ha => g_runV C (nargs := 0) (As := []) (rest := []) gX10_spreadAfter_X7_everyTicket rfl (by decide +kernel) rfl t13 rfl rfl rfl rfl dX10_spreadAfter_36 (k_m_X7_everyTicket X.1.2.1 X.2.1 (g_n X) (g_T X) (g_ag_sub hA (by decide +kernel)) σ a ha)) (fun q3 => ?_)
      refine G_istore C dX10_spreadAfter_39 rfl (lv' := [(5, .int q3.1), (0, .ref (g_b X + 0)), (1, .int x1), (2, .int x2), (3, .int x3), (4, .int x4)]) rfl ?_
      refine G_iconst C dX10_spreadAfter_41 (v := 0) (by decide +kernel) ?_
      refine G_istore C dX10_spreadAfter_42 rfl (lv' := [(6, .int (0 : Int32)), (5, .int q3.1), (0, .ref (g_b X + 0)), (1, .int x1), (2, .int x2), (3, .int x3), (4, .int x4)]) rfl ?_
      exact G_sub (w_m_X10_spreadAfter_44 C q hA (m_X10_spreadAfter_26 N fu) ih N N x1 x2 x3 x4 q3.1 (0 : Int32) q3.2) [2, 3, 4, 5, 6, 1, 0] rfl
set_option maxHeartbeats 4000000 in
set_option maxRecDepth 100000 in
theorem w_m_X10_spreadAfter_0 {X : g_X (Int32 × g_St)} (C : g_C X cX10_spreadAfter RX10 wsX10_spreadAfter rm_m_X10_spreadAfter 9) (q : g_qI X) (hA : g_ag L_m_X10_spreadAfter (g_n X) (g_T X)) (N : Nat) (x1 : Int32) (x2 : Int32) (σ : g_St) : G X 0 [(0, .ref (g_b X + 0)), (1, .int x1), (2, .int x2)] [] σ (m_X10_spreadAfter N x1 x2 σ) := by
  have t0 := g_ag_at hA (c := 0) rfl tc0
  have t16 := g_ag_at hA (c := 16) rfl tc16
  have t17 := g_ag_at hA (c := 17) rfl tc17
  have t76 := g_ag_at hA (c := 76) rfl tc76
  unfold m_X10_spreadAfter
  refine G_aload_n C dX10_spreadAfter_0 rfl 0 rfl ?_
  refine G_getR C f_X10_spreadAfter_30 t0 rfl dX10_spreadAfter_1 ?_
  refine G_getR C f_X10_spreadAfter_147 t16 rfl dX10_spreadAfter_4 ?_
  refine G_iconst C dX10_spreadAfter_7 (v := 0) (by decide +kernel) ?_
  refine G_aload_n C dX10_spreadAfter_8 rfl 0 rfl ?_
  refine G_getR C f_X10_spreadAfter_83 t0 rfl dX10_spreadAfter_9 ?_
  refine G_iconst C dX10_spreadAfter_12 (v := 0) (by decide +kernel) ?_
  refine G_bipush C dX10_spreadAfter_13 (v := 6) (by decide +kernel) ?_
  refine G_copyk C w_X10_spreadAfter_346 rfl t17 t76 (by decide +kernel) (ks := 0) (kd := 0) (kn := 6) rfl rfl rfl dX10_spreadAfter_15 ?_
  refine G_lts (fun σ1 => ?_)
  refine G_aload_n C dX10_spreadAfter_18 rfl 0 rfl ?_
  refine G_getI C f_X10_spreadAfter_93 t0 rfl dX10_spreadAfter_19 ?_
  refine G_lti (fun v2 => ?_)
  refine G_istore_n C dX10_spreadAfter_22 rfl rfl (lv' := [(3, .int v2), (0, .ref (g_b X + 0)), (1, .int x1), (2, .int x2)]) rfl ?_
  refine G_iconst C dX10_spreadAfter_23 (v := 0) (by decide +kernel) ?_
  refine G_istore C dX10_spreadAfter_24 rfl (lv' := [(4, .int (0 : Int32)), (3, .int v2), (0, .ref (g_b X + 0)), (1, .int x1), (2, .int x2)]) rfl ?_
  exact G_sub (w_m_X10_spreadAfter_26 C q hA N N x1 x2 v2 (0 : Int32) σ1) [2, 3, 4, 1, 0] rfl
theorem k_m_X10_spreadAfter (l : Launch) (E : g_E) (n : Nat) (T : Nat → g_Sh) (hA : g_ag L_m_X10_spreadAfter n T) (N : Nat) (x1 : Int32) (x2 : Int32) (σ : g_St) (a : Int32 × g_St) (h : m_X10_spreadAfter N x1 x2 σ = some a) : Met l yX10_spreadAfter wsX10_spreadAfter rm_m_X10_spreadAfter (g_Pc E n T [.ref (E.2.1 + 0), .int x1, .int x2] σ) (g_Qi E n T a) 0 0 (g_A E) :=
  g_metI (by decide +kernel) rfl rfl (Nat.le_of_ble_eq_true rfl) (fun M Qf C q => by rw [← h]; exact w_m_X10_spreadAfter_0 C q hA N x1 x2 σ)
def L_m_X10_evens : List Nat := [0, 13, 14, 16, 17, 19, 20, 76]
abbrev rm_m_X10_evens : Room := { frames := 3, cells := 0, slots := 0, locals := 88 }
theorem f_X10_evens_121 : g_Fld wsX10_evens RX10 121 7 2 := ⟨RX7, TX7, 6, rfl, by decide +kernel, by decide, by decide +kernel⟩
theorem f_X10_evens_124 : g_Fld wsX10_evens RX10 124 7 3 := ⟨RX7, TX7, 6, rfl, by decide +kernel, by decide, by decide +kernel⟩
theorem f_X10_evens_23 : g_Fld wsX10_evens RX10 23 10 2 := ⟨RX10, TX10, 15, rfl, by decide +kernel, by decide, by decide +kernel⟩
theorem c_X10_evens_206 : Cond.constant RX10 206 (-1000000003) ∈ wsX10_evens := by decide +kernel
theorem c_X10_evens_96 : Cond.constant RX10 96 (-1000000002) ∈ wsX10_evens := by decide +kernel
theorem w_X10_evens_220 : g_mw wsX10_evens RX10 220 Lib.Math.min.name Lib.Math.min.code 2 := ⟨by decide +kernel, by decide +kernel, by decide +kernel, by decide +kernel⟩
set_option maxHeartbeats 4000000 in
set_option maxRecDepth 100000 in
theorem w_m_X10_evens_0 {X : g_X (Int32 × g_St)} (C : g_C X cX10_evens RX10 wsX10_evens rm_m_X10_evens 5) (q : g_qI X) (hA : g_ag L_m_X10_evens (g_n X) (g_T X)) (N : Nat) (x1 : Int32) (x2 : Int32) (σ : g_St) : G X 0 [(0, .ref (g_b X + 0)), (1, .int x1), (2, .int x2)] [] σ (m_X10_evens N x1 x2 σ) := by
  have t0 := g_ag_at hA (c := 0) rfl tc0
  have t13 := g_ag_at hA (c := 13) rfl tc13
  unfold m_X10_evens
  refine G_iload_n C dX10_evens_0 rfl 1 rfl ?_
  refine G_iconst C dX10_evens_1 (v := 1) (by decide +kernel) ?_
  refine G_icmp_lt C dX10_evens_2 (tgt := 20) (by decide) (fun c1 => ?_) (fun c1 => ?_)
  · refine G_ldc C dX10_evens_20 c_X10_evens_96 ?_
    exact G_iret C q dX10_evens_22
  · refine G_iload_n C dX10_evens_5 rfl 1 rfl ?_
    refine G_bipush C dX10_evens_6 (v := 20) (by decide +kernel) ?_
    refine G_icmp_gt C dX10_evens_8 (tgt := 20) (by decide) (fun c2 => ?_) (fun c2 => ?_)
    · refine G_ldc C dX10_evens_20 c_X10_evens_96 ?_
      exact G_iret C q dX10_evens_22
    · refine G_iload_n C dX10_evens_11 rfl 2 rfl ?_
      refine G_if_lt C dX10_evens_12 (tgt := 20) (by decide) (fun c3 => ?_) (fun c3 => ?_)
      · refine G_ldc C dX10_evens_20 c_X10_evens_96 ?_
        exact G_iret C q dX10_evens_22
      · refine G_iload_n C dX10_evens_15 rfl 2 rfl ?_
        refine G_iconst C dX10_evens_16 (v := 1) (by decide +kernel) ?_
        refine G_icmp_le C dX10_evens_17 (tgt := 23) (by decide) (fun c4 => ?_) (fun c4 => ?_)
        · refine G_aload_n C dX10_evens_23 rfl 0 rfl ?_
          refine G_getR C f_X10_evens_23 t0 rfl dX10_evens_24 ?_
          refine G_getI C f_X10_evens_121 t13 rfl dX10_evens_27 ?_
          refine G_if_eq C dX10_evens_30 (tgt := 43) (by decide) (fun c5 => ?_) (fun c5 => ?_)
          · refine G_ldc C dX10_evens_43 c_X10_evens_206 ?_
            exact G_iret C q dX10_evens_45
          · refine G_aload_n C dX10_evens_33 rfl 0 rfl ?_
            refine G_getR C f_X10_evens_23 t0 rfl dX10_evens_34 ?_
            refine G_getI C f_X10_evens_124 t13 rfl dX10_evens_37 ?_
            refine G_if_ne C dX10_evens_40 (tgt := 46) (by decide) (fun c6 => ?_) (fun c6 => ?_)
            · refine G_ldc C dX10_evens_43 c_X10_evens_206 ?_
              exact G_iret C q dX10_evens_45
            · refine G_aload_n C dX10_evens_46 rfl 0 rfl ?_
              refine G_iload_n C dX10_evens_47 rfl 1 rfl ?_
              refine G_iconst C dX10_evens_48 (v := 1) (by decide +kernel) ?_
              refine G_callI (rest := []) (fun a ha => g_runV C (nargs := 2) (As := [.int x1, .int (1 : Int32)]) (rest := []) gX10_evens_X10_spreadAfter rfl (by decide +kernel) rfl t0 rfl rfl rfl rfl dX10_evens_49 (k_m_X10_spreadAfter X.1.2.1 X.2.1 (g_n X) (g_T X) (g_ag_sub hA (by decide +kernel)) N x1 (1 : Int32) σ a ha)) (fun q7 => ?_)
              refine G_istore_n C dX10_evens_52 rfl rfl (lv' := [(3, .int q7.1), (0, .ref (g_b X + 0)), (1, .int x1), (2, .int x2)]) rfl ?_
              refine G_aload_n C dX10_evens_53 rfl 1 rfl ?_
              refine G_iload_n C dX10_evens_54 rfl 2 rfl ?_
              refine G_iconst C dX10_evens_55 (v := 0) (by decide +kernel) ?_
              refine G_callI (rest := []) (fun a ha => g_runV C (nargs := 2) (As := [.int x1, .int (0 : Int32)]) (rest := []) gX10_evens_X10_spreadAfter rfl (by decide +kernel) rfl t0 rfl rfl rfl rfl dX10_evens_56 (k_m_X10_spreadAfter X.1.2.1 X.2.1 (g_n X) (g_T X) (g_ag_sub hA (by decide +kernel)) N x1 (0 : Int32) q7.2 a ha)) (fun q8 => ?_)
              refine G_istore C dX10_evens_59 rfl (lv' := [(4, .int q8.1), (3, .int q7.1), (0, .ref (g_b X + 0)), (1, .int x1), (2, .int x2)]) rfl ?_
              refine G_iload_n C dX10_evens_61 rfl 4 rfl ?_
              refine G_iconst C dX10_evens_62 (v := 1) (by decide +kernel) ?_
              refine G_icmp_ne C dX10_evens_63 (tgt := 73) (by decide) (fun c9 => ?_) (fun c9 => ?_)
              · refine G_iload_n C dX10_evens_66 rfl 1 rfl ?_
                refine G_iload C dX10_evens_67 0 rfl ?_
                refine G_mmin C w_X10_evens_220 rfl dX10_evens_69 ?_
                exact G_iret C q dX10_evens_72
              · refine G_iload_n C dX10_evens_73 rfl 1 rfl ?_
                refine G_iload C dX10_evens_74 0 rfl ?_
                refine G_icmp_ne C dX10_evens_76 (tgt := 81) (by decide) (fun c10 => ?_) (fun c10 => ?_)
                · refine G_iconst C dX10_evens_79 (v := 2) (by decide +kernel) ?_
                  exact G_iret C q dX10_evens_80
                · refine G_iload_n C dX10_evens_81 rfl 1 rfl ?_
                  refine G_iload C dX10_evens_82 0 rfl ?_
                  refine G_icmp_ge C dX10_evens_84 (tgt := 91) (by decide) (fun c11 => ?_) (fun c11 => ?_)
                  · refine G_iconst C dX10_evens_91 (v := 0) (by decide +kernel) ?_
                    exact G_iret C q dX10_evens_92
                  · refine G_iconst C dX10_evens_87 (v := 1) (by decide +kernel) ?_
                    refine G_goto C dX10_evens_88 (tgt := 92) (by decide) ?_
                    exact G_iret C q dX10_evens_92
        · refine G_ldc C dX10_evens_20 c_X10_evens_96 ?_
          exact G_iret C q dX10_evens_22
theorem k_m_X10_evens (l : Launch) (E : g_E) (n : Nat) (T : Nat → g_Sh) (hA : g_ag L_m_X10_evens n T) (N : Nat) (x1 : Int32) (x2 : Int32) (σ : g_St) (a : Int32 × g_St) (h : m_X10_evens N x1 x2 σ = some a) : Met l yX10_evens wsX10_evens rm_m_X10_evens (g_Pc E n T [.ref (E.2.1 + 0), .int x1, .int x2] σ) (g_Qi E n T a) 0 0 (g_A E) :=
  g_metI (by decide +kernel) rfl rfl (Nat.le_of_ble_eq_true rfl) (fun M Qf C q => by rw [← h]; exact w_m_X10_evens_0 C q hA N x1 x2 σ)
def L_m_X10_couples : List Nat := [0, 13, 15, 16, 17, 63, 64, 65, 66]
abbrev rm_m_X10_couples : Room := { frames := 4, cells := 0, slots := 0, locals := 97 }
theorem f_X10_couples_23 : g_Fld wsX10_couples RX10 23 10 2 := ⟨RX10, TX10, 15, rfl, by decide +kernel, by decide, by decide +kernel⟩
theorem f_X10_couples_263 : g_Fld wsX10_couples RX10 263 9 3 := ⟨RX9, TX9, 4, rfl, by decide +kernel, by decide, by decide +kernel⟩
theorem f_X10_couples_266 : g_Fld wsX10_couples RX10 266 9 2 := ⟨RX9, TX9, 4, rfl, by decide +kernel, by decide, by decide +kernel⟩
theorem f_X10_couples_30 : g_Fld wsX10_couples RX10 30 10 3 := ⟨RX10, TX10, 15, rfl, by decide +kernel, by decide, by decide +kernel⟩
theorem f_X10_couples_58 : g_Fld wsX10_couples RX10 58 10 7 := ⟨RX10, TX10, 15, rfl, by decide +kernel, by decide, by decide +kernel⟩
theorem c_X10_couples_167 : Cond.constant RX10 167 (-1000000001) ∈ wsX10_couples := by decide +kernel
theorem c_X10_couples_96 : Cond.constant RX10 96 (-1000000002) ∈ wsX10_couples := by decide +kernel
set_option maxHeartbeats 4000000 in
set_option maxRecDepth 100000 in
theorem w_m_X10_couples_0 {X : g_X (Int32 × g_St)} (C : g_C X cX10_couples RX10 wsX10_couples rm_m_X10_couples 3) (q : g_qI X) (hA : g_ag L_m_X10_couples (g_n X) (g_T X)) (N : Nat) (x1 : Int32) (x2 : Int32) (σ : g_St) : G X 0 [(0, .ref (g_b X + 0)), (1, .int x1), (2, .int x2)] [] σ (m_X10_couples N x1 x2 σ) := by
  have t0 := g_ag_at hA (c := 0) rfl tc0
  have t63 := g_ag_at hA (c := 63) rfl tc63
  have t66 := g_ag_at hA (c := 66) rfl tc66
  unfold m_X10_couples
  refine G_aload_n C dX10_couples_0 rfl 0 rfl ?_
  refine G_iload_n C dX10_couples_1 rfl 2 rfl ?_
  refine G_callI (rest := []) (fun a ha => g_runV C (nargs := 1) (As := [.int x2]) (rest := []) gX10_couples_X10_isPersonOrNone rfl (by decide +kernel) rfl t0 rfl rfl rfl rfl dX10_couples_2 (k_m_X10_isPersonOrNone X.1.2.1 X.2.1 (g_n X) (g_T X) (g_ag_sub hA (by decide +kernel)) x2 σ a ha)) (fun q1 => ?_)
  refine G_if_ne C dX10_couples_5 (tgt := 11) (by decide) (fun c2 => ?_) (fun c2 => ?_)
  · refine G_ldc C dX10_couples_8 c_X10_couples_167 ?_
    exact G_iret C q dX10_couples_10
  · refine G_iload_n C dX10_couples_11 rfl 1 rfl ?_
    refine G_if_lt C dX10_couples_12 (tgt := 21) (by decide) (fun c3 => ?_) (fun c3 => ?_)
    · refine G_ldc C dX10_couples_21 c_X10_couples_96 ?_
      exact G_iret C q dX10_couples_23
    · refine G_iload_n C dX10_couples_15 rfl 1 rfl ?_
      refine G_bipush C dX10_couples_16 (v := 99) (by decide +kernel) ?_
      refine G_icmp_le C dX10_couples_18 (tgt := 24) (by decide) (fun c4 => ?_) (fun c4 => ?_)
      · refine G_aload_n C dX10_couples_24 rfl 0 rfl ?_
        refine G_getR C f_X10_couples_58 t0 rfl dX10_couples_25 ?_
        refine G_aload_n C dX10_couples_28 rfl 0 rfl ?_
        refine G_getR C f_X10_couples_23 t0 rfl dX10_couples_29 ?_
        refine G_aload_n C dX10_couples_32 rfl 0 rfl ?_
        refine G_getR C f_X10_couples_30 t0 rfl dX10_couples_33 ?_
        refine G_iload_n C dX10_couples_36 rfl 1 rfl ?_
        refine G_callV (rest := []) (fun a ha => g_runV C (nargs := 3) (As := [.ref (g_b X + 13), .ref (g_b X + 16), .int x1]) (rest := []) gX10_couples_X9_match rfl (by decide +kernel) rfl t63 rfl rfl rfl rfl dX10_couples_37 (k_m_X9_match X.1.2.1 X.2.1 (g_n X) (g_T X) (g_ag_sub hA (by decide +kernel)) N x1 q1.2 a ha)) (fun σ5 => ?_)
        refine G_iload_n C dX10_couples_40 rfl 2 rfl ?_
        refine G_iconst C dX10_couples_41 (v := -1) (by decide +kernel) ?_
        refine G_icmp_ne C dX10_couples_42 (tgt := 55) (by decide) (fun c6 => ?_) (fun c6 => ?_)
        · refine G_aload_n C dX10_couples_45 rfl 0 rfl ?_
          refine G_getR C f_X10_couples_58 t0 rfl dX10_couples_46 ?_
          refine G_getI C f_X10_couples_263 t63 rfl dX10_couples_49 ?_
          refine G_goto C dX10_couples_52 (tgt := 64) (by decide) ?_
          exact G_iret C q dX10_couples_64
        · refine G_aload_n C dX10_couples_55 rfl 0 rfl ?_
          refine G_getR C f_X10_couples_58 t0 rfl dX10_couples_56 ?_
          refine G_getR C f_X10_couples_266 t63 rfl dX10_couples_59 ?_
          refine G_iload_n C dX10_couples_62 rfl 2 rfl ?_
          refine G_chk (fun h7 => ?_)
          refine G_ald C t66 h7 dX10_couples_63 ?_
          exact G_iret C q dX10_couples_64
      · refine G_ldc C dX10_couples_21 c_X10_couples_96 ?_
        exact G_iret C q dX10_couples_23
theorem k_m_X10_couples (l : Launch) (E : g_E) (n : Nat) (T : Nat → g_Sh) (hA : g_ag L_m_X10_couples n T) (N : Nat) (x1 : Int32) (x2 : Int32) (σ : g_St) (a : Int32 × g_St) (h : m_X10_couples N x1 x2 σ = some a) : Met l yX10_couples wsX10_couples rm_m_X10_couples (g_Pc E n T [.ref (E.2.1 + 0), .int x1, .int x2] σ) (g_Qi E n T a) 0 0 (g_A E) :=
  g_metI (by decide +kernel) rfl rfl (Nat.le_of_ble_eq_true rfl) (fun M Qf C q => by rw [← h]; exact w_m_X10_couples_0 C q hA N x1 x2 σ)
def L_m_X10_see : List Nat := [0, 13, 67, 68]
abbrev rm_m_X10_see : Room := { frames := 1, cells := 0, slots := 0, locals := 21 }
theorem f_X10_see_153 : g_Fld wsX10_see RX10 153 8 1 := ⟨RX8, TX8, 2, rfl, by decide +kernel, by decide, by decide +kernel⟩
theorem f_X10_see_65 : g_Fld wsX10_see RX10 65 10 8 := ⟨RX10, TX10, 15, rfl, by decide +kernel, by decide, by decide +kernel⟩
theorem c_X10_see_167 : Cond.constant RX10 167 (-1000000001) ∈ wsX10_see := by decide +kernel
theorem c_X10_see_97 : Cond.constant RX10 97 (-1000000004) ∈ wsX10_see := by decide +kernel
set_option maxHeartbeats 4000000 in
set_option maxRecDepth 100000 in
theorem w_m_X10_see_0 {X : g_X (Int32 × g_St)} (C : g_C X cX10_see RX10 wsX10_see rm_m_X10_see 2) (q : g_qI X) (hA : g_ag L_m_X10_see (g_n X) (g_T X)) (x1 : Int32) (σ : g_St) : G X 0 [(0, .ref (g_b X + 0)), (1, .int x1)] [] σ (m_X10_see x1 σ) := by
  have t0 := g_ag_at hA (c := 0) rfl tc0
  have t67 := g_ag_at hA (c := 67) rfl tc67
  unfold m_X10_see
  refine G_aload_n C dX10_see_0 rfl 0 rfl ?_
  refine G_iload_n C dX10_see_1 rfl 1 rfl ?_
  refine G_callI (rest := []) (fun a ha => g_runV C (nargs := 1) (As := [.int x1]) (rest := []) gX10_see_X10_isTicket rfl (by decide +kernel) rfl t0 rfl rfl rfl rfl dX10_see_2 (k_m_X10_isTicket X.1.2.1 X.2.1 (g_n X) (g_T X) (g_ag_sub hA (by decide +kernel)) x1 σ a ha)) (fun q1 => ?_)
  refine G_if_ne C dX10_see_5 (tgt := 11) (by decide) (fun c2 => ?_) (fun c2 => ?_)
  · refine G_ldc C dX10_see_8 c_X10_see_167 ?_
    exact G_iret C q dX10_see_10
  · refine G_aload_n C dX10_see_11 rfl 0 rfl ?_
    refine G_getR C f_X10_see_65 t0 rfl dX10_see_12 ?_
    refine G_getI C f_X10_see_153 t67 rfl dX10_see_15 ?_
    refine G_bipush C dX10_see_18 (v := 8) (by decide +kernel) ?_
    refine G_icmp_lt C dX10_see_20 (tgt := 26) (by decide) (fun c3 => ?_) (fun c3 => ?_)
    · refine G_aload_n C dX10_see_26 rfl 0 rfl ?_
      refine G_getR C f_X10_see_65 t0 rfl dX10_see_27 ?_
      refine G_iload_n C dX10_see_30 rfl 1 rfl ?_
      refine G_callI (rest := []) (fun a ha => g_runV C (nargs := 1) (As := [.int x1]) (rest := []) gX10_see_X8_add rfl (by decide +kernel) rfl t67 rfl rfl rfl rfl dX10_see_31 (k_m_X8_add X.1.2.1 X.2.1 (g_n X) (g_T X) (g_ag_sub hA (by decide +kernel)) x1 q1.2 a ha)) (fun q4 => ?_)
      exact G_iret C q dX10_see_34
    · refine G_ldc C dX10_see_23 c_X10_see_97 ?_
      exact G_iret C q dX10_see_25
theorem k_m_X10_see (l : Launch) (E : g_E) (n : Nat) (T : Nat → g_Sh) (hA : g_ag L_m_X10_see n T) (x1 : Int32) (σ : g_St) (a : Int32 × g_St) (h : m_X10_see x1 σ = some a) : Met l yX10_see wsX10_see rm_m_X10_see (g_Pc E n T [.ref (E.2.1 + 0), .int x1] σ) (g_Qi E n T a) 0 0 (g_A E) :=
  g_metI (by decide +kernel) rfl rfl (Nat.le_of_ble_eq_true rfl) (fun M Qf C q => by rw [← h]; exact w_m_X10_see_0 C q hA x1 σ)
def L_m_X10_belief : List Nat := [0, 13, 14, 67, 68]
abbrev rm_m_X10_belief : Room := { frames := 4, cells := 0, slots := 0, locals := 97 }
theorem f_X10_belief_23 : g_Fld wsX10_belief RX10 23 10 2 := ⟨RX10, TX10, 15, rfl, by decide +kernel, by decide, by decide +kernel⟩
theorem f_X10_belief_65 : g_Fld wsX10_belief RX10 65 10 8 := ⟨RX10, TX10, 15, rfl, by decide +kernel, by decide, by decide +kernel⟩
theorem c_X10_belief_167 : Cond.constant RX10 167 (-1000000001) ∈ wsX10_belief := by decide +kernel
set_option maxHeartbeats 4000000 in
set_option maxRecDepth 100000 in
theorem w_m_X10_belief_16 {X : g_X (Int32 × g_St)} (C : g_C X cX10_belief RX10 wsX10_belief rm_m_X10_belief 2) (q : g_qI X) (hA : g_ag L_m_X10_belief (g_n X) (g_T X)) (N : Nat) (x1 : Int32) (σ : g_St) : G X 16 [(0, .ref (g_b X + 0)), (1, .int x1)] [] σ (m_X10_belief_16 N x1 σ) := by
  have t0 := g_ag_at hA (c := 0) rfl tc0
  have t67 := g_ag_at hA (c := 67) rfl tc67
  unfold m_X10_belief_16
  refine G_aload_n C dX10_belief_16 rfl 0 rfl ?_
  refine G_getR C f_X10_belief_65 t0 rfl dX10_belief_17 ?_
  refine G_aload_n C dX10_belief_20 rfl 0 rfl ?_
  refine G_getR C f_X10_belief_23 t0 rfl dX10_belief_21 ?_
  refine G_iload_n C dX10_belief_24 rfl 1 rfl ?_
  refine G_callI (rest := []) (fun a ha => g_runV C (nargs := 2) (As := [.ref (g_b X + 13), .int x1]) (rest := []) gX10_belief_X8_millionths rfl (by decide +kernel) rfl t67 rfl rfl rfl rfl dX10_belief_25 (k_m_X8_millionths X.1.2.1 X.2.1 (g_n X) (g_T X) (g_ag_sub hA (by decide +kernel)) N x1 σ a ha)) (fun q1 => ?_)
  exact G_iret C q dX10_belief_28
set_option maxHeartbeats 4000000 in
set_option maxRecDepth 100000 in
theorem w_m_X10_belief_0 {X : g_X (Int32 × g_St)} (C : g_C X cX10_belief RX10 wsX10_belief rm_m_X10_belief 2) (q : g_qI X) (hA : g_ag L_m_X10_belief (g_n X) (g_T X)) (N : Nat) (x1 : Int32) (σ : g_St) : G X 0 [(0, .ref (g_b X + 0)), (1, .int x1)] [] σ (m_X10_belief N x1 σ) := by
  have t0 := g_ag_at hA (c := 0) rfl tc0
  unfold m_X10_belief
  refine G_iload_n C dX10_belief_0 rfl 1 rfl ?_
  refine G_iconst C dX10_belief_1 (v := -1) (by decide +kernel) ?_
  refine G_icmp_eq C dX10_belief_2 (tgt := 16) (by decide) (fun c1 => ?_) (fun c1 => ?_)
  · exact w_m_X10_belief_16 C q hA N x1 σ
  · refine G_aload_n C dX10_belief_5 rfl 0 rfl ?_
    refine G_iload_n C dX10_belief_6 rfl 1 rfl ?_
    refine G_callI (rest := []) (fun a ha => g_runV C (nargs := 1) (As := [.int x1]) (rest := []) gX10_belief_X10_isTicket rfl (by decide +kernel) rfl t0 rfl rfl rfl rfl dX10_belief_7 (k_m_X10_isTicket X.1.2.1 X.2.1 (g_n X) (g_T X) (g_ag_sub hA (by decide +kernel)) x1 σ a ha)) (fun q2 => ?_)
    refine G_if_ne C dX10_belief_10 (tgt := 16) (by decide) (fun c3 => ?_) (fun c3 => ?_)
    · refine G_ldc C dX10_belief_13 c_X10_belief_167 ?_
      exact G_iret C q dX10_belief_15
    · exact w_m_X10_belief_16 C q hA N x1 q2.2
theorem k_m_X10_belief (l : Launch) (E : g_E) (n : Nat) (T : Nat → g_Sh) (hA : g_ag L_m_X10_belief n T) (N : Nat) (x1 : Int32) (σ : g_St) (a : Int32 × g_St) (h : m_X10_belief N x1 σ = some a) : Met l yX10_belief wsX10_belief rm_m_X10_belief (g_Pc E n T [.ref (E.2.1 + 0), .int x1] σ) (g_Qi E n T a) 0 0 (g_A E) :=
  g_metI (by decide +kernel) rfl rfl (Nat.le_of_ble_eq_true rfl) (fun M Qf C q => by rw [← h]; exact w_m_X10_belief_0 C q hA N x1 σ)
def L_m_X10_likeliest : List Nat := [0, 13, 14, 67, 68]
abbrev rm_m_X10_likeliest : Room := { frames := 4, cells := 0, slots := 0, locals := 99 }
theorem f_X10_likeliest_23 : g_Fld wsX10_likeliest RX10 23 10 2 := ⟨RX10, TX10, 15, rfl, by decide +kernel, by decide, by decide +kernel⟩
theorem f_X10_likeliest_65 : g_Fld wsX10_likeliest RX10 65 10 8 := ⟨RX10, TX10, 15, rfl, by decide +kernel, by decide, by decide +kernel⟩
set_option maxHeartbeats 4000000 in
set_option maxRecDepth 100000 in
theorem w_m_X10_likeliest_0 {X : g_X (Int32 × g_St)} (C : g_C X cX10_likeliest RX10 wsX10_likeliest rm_m_X10_likeliest 1) (q : g_qI X) (hA : g_ag L_m_X10_likeliest (g_n X) (g_T X)) (N : Nat) (σ : g_St) : G X 0 [(0, .ref (g_b X + 0))] [] σ (m_X10_likeliest N σ) := by
  have t0 := g_ag_at hA (c := 0) rfl tc0
  have t67 := g_ag_at hA (c := 67) rfl tc67
  unfold m_X10_likeliest
  refine G_aload_n C dX10_likeliest_0 rfl 0 rfl ?_
  refine G_getR C f_X10_likeliest_65 t0 rfl dX10_likeliest_1 ?_
  refine G_aload_n C dX10_likeliest_4 rfl 0 rfl ?_
  refine G_getR C f_X10_likeliest_23 t0 rfl dX10_likeliest_5 ?_
  refine G_callI (rest := []) (fun a ha => g_runV C (nargs := 1) (As := [.ref (g_b X + 13)]) (rest := []) gX10_likeliest_X8_heaviest rfl (by decide +kernel) rfl t67 rfl rfl rfl rfl dX10_likeliest_8 (k_m_X8_heaviest X.1.2.1 X.2.1 (g_n X) (g_T X) (g_ag_sub hA (by decide +kernel)) N σ a ha)) (fun q1 => ?_)
  exact G_iret C q dX10_likeliest_11
theorem k_m_X10_likeliest (l : Launch) (E : g_E) (n : Nat) (T : Nat → g_Sh) (hA : g_ag L_m_X10_likeliest n T) (N : Nat) (σ : g_St) (a : Int32 × g_St) (h : m_X10_likeliest N σ = some a) : Met l yX10_likeliest wsX10_likeliest rm_m_X10_likeliest (g_Pc E n T [.ref (E.2.1 + 0)] σ) (g_Qi E n T a) 0 0 (g_A E) :=
  g_metI (by decide +kernel) rfl rfl (Nat.le_of_ble_eq_true rfl) (fun M Qf C q => by rw [← h]; exact w_m_X10_likeliest_0 C q hA N σ)
def L_m_X10_candles : List Nat := [0, 13, 69, 70]
abbrev rm_m_X10_candles : Room := { frames := 1, cells := 0, slots := 0, locals := 22 }
theorem f_X10_candles_72 : g_Fld wsX10_candles RX10 72 10 9 := ⟨RX10, TX10, 15, rfl, by decide +kernel, by decide, by decide +kernel⟩
theorem c_X10_candles_167 : Cond.constant RX10 167 (-1000000001) ∈ wsX10_candles := by decide +kernel
theorem c_X10_candles_96 : Cond.constant RX10 96 (-1000000002) ∈ wsX10_candles := by decide +kernel
set_option maxHeartbeats 4000000 in
set_option maxRecDepth 100000 in
theorem w_m_X10_candles_0 {X : g_X (Int32 × g_St)} (C : g_C X cX10_candles RX10 wsX10_candles rm_m_X10_candles 3) (q : g_qI X) (hA : g_ag L_m_X10_candles (g_n X) (g_T X)) (x1 : Int32) (x2 : Int32) (σ : g_St) : G X 0 [(0, .ref (g_b X + 0)), (1, .int x1), (2, .int x2)] [] σ (m_X10_candles x1 x2 σ) := by
  have t0 := g_ag_at hA (c := 0) rfl tc0
  have t69 := g_ag_at hA (c := 69) rfl tc69
  unfold m_X10_candles
  refine G_aload_n C dX10_candles_0 rfl 0 rfl ?_
  refine G_iload_n C dX10_candles_1 rfl 1 rfl ?_
  refine G_callI (rest := []) (fun a ha => g_runV C (nargs := 1) (As := [.int x1]) (rest := []) gX10_candles_X10_isPerson rfl (by decide +kernel) rfl t0 rfl rfl rfl rfl dX10_candles_2 (k_m_X10_isPerson X.1.2.1 X.2.1 (g_n X) (g_T X) (g_ag_sub hA (by decide +kernel)) x1 σ a ha)) (fun q1 => ?_)
  refine G_if_ne C dX10_candles_5 (tgt := 11) (by decide) (fun c2 => ?_) (fun c2 => ?_)
  · refine G_ldc C dX10_candles_8 c_X10_candles_167 ?_
    exact G_iret C q dX10_candles_10
  · refine G_iload_n C dX10_candles_11 rfl 2 rfl ?_
    refine G_if_lt C dX10_candles_12 (tgt := 22) (by decide) (fun c3 => ?_) (fun c3 => ?_)
    · refine G_ldc C dX10_candles_22 c_X10_candles_96 ?_
      exact G_iret C q dX10_candles_24
    · refine G_iload_n C dX10_candles_15 rfl 2 rfl ?_
      refine G_sipush C dX10_candles_16 (v := 999) (by decide +kernel) ?_
      refine G_icmp_le C dX10_candles_19 (tgt := 25) (by decide) (fun c4 => ?_) (fun c4 => ?_)
      · refine G_aload_n C dX10_candles_25 rfl 0 rfl ?_
        refine G_getR C f_X10_candles_72 t0 rfl dX10_candles_26 ?_
        refine G_iload_n C dX10_candles_29 rfl 1 rfl ?_
        refine G_iload_n C dX10_candles_30 rfl 2 rfl ?_
        refine G_callI (rest := []) (fun a ha => g_runV C (nargs := 2) (As := [.int x1, .int x2]) (rest := []) gX10_candles_X1_light rfl (by decide +kernel) rfl t69 rfl rfl rfl rfl dX10_candles_31 (k_m_X1_light X.1.2.1 X.2.1 (g_n X) (g_T X) (g_ag_sub hA (by decide +kernel)) x1 x2 q1.2 a ha)) (fun q5 => ?_)
        exact G_iret C q dX10_candles_34
      · refine G_ldc C dX10_candles_22 c_X10_candles_96 ?_
        exact G_iret C q dX10_candles_24
theorem k_m_X10_candles (l : Launch) (E : g_E) (n : Nat) (T : Nat → g_Sh) (hA : g_ag L_m_X10_candles n T) (x1 : Int32) (x2 : Int32) (σ : g_St) (a : Int32 × g_St) (h : m_X10_candles x1 x2 σ = some a) : Met l yX10_candles wsX10_candles rm_m_X10_candles (g_Pc E n T [.ref (E.2.1 + 0), .int x1, .int x2] σ) (g_Qi E n T a) 0 0 (g_A E) :=
  g_metI (by decide +kernel) rfl rfl (Nat.le_of_ble_eq_true rfl) (fun M Qf C q => by rw [← h]; exact w_m_X10_candles_0 C q hA x1 x2 σ)
def L_m_X10_rows : List Nat := [0, 13, 16, 17, 19, 20, 69, 70, 71, 72, 73]
abbrev rm_m_X10_rows : Room := { frames := 10, cells := 0, slots := 0, locals := 311 }
theorem f_X10_rows_124 : g_Fld wsX10_rows RX10 124 7 3 := ⟨RX7, TX7, 6, rfl, by decide +kernel, by decide, by decide +kernel⟩
theorem f_X10_rows_23 : g_Fld wsX10_rows RX10 23 10 2 := ⟨RX10, TX10, 15, rfl, by decide +kernel, by decide, by decide +kernel⟩
theorem f_X10_rows_286 : g_Fld wsX10_rows RX10 286 1 5 := ⟨RX1, TX1, 8, rfl, by decide +kernel, by decide, by decide +kernel⟩
theorem f_X10_rows_30 : g_Fld wsX10_rows RX10 30 10 3 := ⟨RX10, TX10, 15, rfl, by decide +kernel, by decide, by decide +kernel⟩
theorem f_X10_rows_72 : g_Fld wsX10_rows RX10 72 10 9 := ⟨RX10, TX10, 15, rfl, by decide +kernel, by decide, by decide +kernel⟩
theorem c_X10_rows_206 : Cond.constant RX10 206 (-1000000003) ∈ wsX10_rows := by decide +kernel
theorem c_X10_rows_96 : Cond.constant RX10 96 (-1000000002) ∈ wsX10_rows := by decide +kernel
set_option maxHeartbeats 4000000 in
set_option maxRecDepth 100000 in
theorem w_m_X10_rows_0 {X : g_X (Int32 × g_St)} (C : g_C X cX10_rows RX10 wsX10_rows rm_m_X10_rows 3) (q : g_qI X) (hA : g_ag L_m_X10_rows (g_n X) (g_T X)) (N : Nat) (x1 : Int32) (x2 : Int32) (σ : g_St) : G X 0 [(0, .ref (g_b X + 0)), (1, .int x1), (2, .int x2)] [] σ (m_X10_rows N x1 x2 σ) := by
  have t0 := g_ag_at hA (c := 0) rfl tc0
  have t13 := g_ag_at hA (c := 13) rfl tc13
  have t69 := g_ag_at hA (c := 69) rfl tc69
  unfold m_X10_rows
  refine G_iload_n C dX10_rows_0 rfl 1 rfl ?_
  refine G_iconst C dX10_rows_1 (v := 1) (by decide +kernel) ?_
  refine G_icmp_lt C dX10_rows_2 (tgt := 10) (by decide) (fun c1 => ?_) (fun c1 => ?_)
  · refine G_ldc C dX10_rows_10 c_X10_rows_96 ?_
    exact G_iret C q dX10_rows_12
  · refine G_iload_n C dX10_rows_5 rfl 1 rfl ?_
    refine G_iconst C dX10_rows_6 (v := 4) (by decide +kernel) ?_
    refine G_icmp_le C dX10_rows_7 (tgt := 13) (by decide) (fun c2 => ?_) (fun c2 => ?_)
    · refine G_aload_n C dX10_rows_13 rfl 0 rfl ?_
      refine G_getR C f_X10_rows_23 t0 rfl dX10_rows_14 ?_
      refine G_getI C f_X10_rows_124 t13 rfl dX10_rows_17 ?_
      refine G_if_ne C dX10_rows_20 (tgt := 26) (by decide) (fun c3 => ?_) (fun c3 => ?_)
      · refine G_ldc C dX10_rows_23 c_X10_rows_206 ?_
        exact G_iret C q dX10_rows_25
      · refine G_aload_n C dX10_rows_26 rfl 0 rfl ?_
        refine G_getR C f_X10_rows_72 t0 rfl dX10_rows_27 ?_
        refine G_aload_n C dX10_rows_30 rfl 0 rfl ?_
        refine G_getR C f_X10_rows_23 t0 rfl dX10_rows_31 ?_
        refine G_aload_n C dX10_rows_34 rfl 0 rfl ?_
        refine G_getR C f_X10_rows_30 t0 rfl dX10_rows_35 ?_
        refine G_iload_n C dX10_rows_38 rfl 1 rfl ?_
        refine G_callV (rest := []) (fun a ha => g_runV C (nargs := 3) (As := [.ref (g_b X + 13), .ref (g_b X + 16), .int x1]) (rest := []) gX10_rows_X1_search rfl (by decide +kernel) rfl t69 rfl rfl rfl rfl dX10_rows_39 (k_m_X1_search X.1.2.1 X.2.1 (g_n X) (g_T X) (g_ag_sub hA (by decide +kernel)) N x1 σ a ha)) (fun σ4 => ?_)
        refine G_iload_n C dX10_rows_42 rfl 2 rfl ?_
        refine G_iconst C dX10_rows_43 (v := -1) (by decide +kernel) ?_
        refine G_icmp_ne C dX10_rows_44 (tgt := 57) (by decide) (fun c5 => ?_) (fun c5 => ?_)
        · refine G_aload_n C dX10_rows_47 rfl 0 rfl ?_
          refine G_getR C f_X10_rows_72 t0 rfl dX10_rows_48 ?_
          refine G_getI C f_X10_rows_286 t69 rfl dX10_rows_51 ?_
          refine G_goto C dX10_rows_54 (tgt := 65) (by decide) ?_
          exact G_iret C q dX10_rows_65
        · refine G_aload_n C dX10_rows_57 rfl 0 rfl ?_
          refine G_getR C f_X10_rows_72 t0 rfl dX10_rows_58 ?_
          refine G_iload_n C dX10_rows_61 rfl 2 rfl ?_
          refine G_callI (rest := []) (fun a ha => g_runV C (nargs := 1) (As := [.int x2]) (rest := []) gX10_rows_X1_firstAt rfl (by decide +kernel) rfl t69 rfl rfl rfl rfl dX10_rows_62 (k_m_X1_firstAt X.1.2.1 X.2.1 (g_n X) (g_T X) (g_ag_sub hA (by decide +kernel)) x2 σ4 a ha)) (fun q6 => ?_)
          exact G_iret C q dX10_rows_65
    · refine G_ldc C dX10_rows_10 c_X10_rows_96 ?_
      exact G_iret C q dX10_rows_12
theorem k_m_X10_rows (l : Launch) (E : g_E) (n : Nat) (T : Nat → g_Sh) (hA : g_ag L_m_X10_rows n T) (N : Nat) (x1 : Int32) (x2 : Int32) (σ : g_St) (a : Int32 × g_St) (h : m_X10_rows N x1 x2 σ = some a) : Met l yX10_rows wsX10_rows rm_m_X10_rows (g_Pc E n T [.ref (E.2.1 + 0), .int x1, .int x2] σ) (g_Qi E n T a) 0 0 (g_A E) :=
  g_metI (by decide +kernel) rfl rfl (Nat.le_of_ble_eq_true rfl) (fun M Qf C q => by rw [← h]; exact w_m_X10_rows_0 C q hA N x1 x2 σ)
def L_m_X10_sure : List Nat := [0, 13, 16, 17, 19, 20, 69, 70, 71, 72, 73]
abbrev rm_m_X10_sure : Room := { frames := 10, cells := 0, slots := 0, locals := 311 }
theorem f_X10_sure_124 : g_Fld wsX10_sure RX10 124 7 3 := ⟨RX7, TX7, 6, rfl, by decide +kernel, by decide, by decide +kernel⟩
theorem f_X10_sure_23 : g_Fld wsX10_sure RX10 23 10 2 := ⟨RX10, TX10, 15, rfl, by decide +kernel, by decide, by decide +kernel⟩
theorem f_X10_sure_286 : g_Fld wsX10_sure RX10 286 1 5 := ⟨RX1, TX1, 8, rfl, by decide +kernel, by decide, by decide +kernel⟩
theorem f_X10_sure_292 : g_Fld wsX10_sure RX10 292 1 6 := ⟨RX1, TX1, 8, rfl, by decide +kernel, by decide, by decide +kernel⟩
theorem f_X10_sure_30 : g_Fld wsX10_sure RX10 30 10 3 := ⟨RX10, TX10, 15, rfl, by decide +kernel, by decide, by decide +kernel⟩
theorem f_X10_sure_72 : g_Fld wsX10_sure RX10 72 10 9 := ⟨RX10, TX10, 15, rfl, by decide +kernel, by decide, by decide +kernel⟩
theorem c_X10_sure_206 : Cond.constant RX10 206 (-1000000003) ∈ wsX10_sure := by decide +kernel
theorem c_X10_sure_96 : Cond.constant RX10 96 (-1000000002) ∈ wsX10_sure := by decide +kernel
set_option maxHeartbeats 4000000 in
set_option maxRecDepth 100000 in
theorem w_m_X10_sure_0 {X : g_X (Int32 × g_St)} (C : g_C X cX10_sure RX10 wsX10_sure rm_m_X10_sure 2) (q : g_qI X) (hA : g_ag L_m_X10_sure (g_n X) (g_T X)) (N : Nat) (x1 : Int32) (σ : g_St) : G X 0 [(0, .ref (g_b X + 0)), (1, .int x1)] [] σ (m_X10_sure N x1 σ) := by
  have t0 := g_ag_at hA (c := 0) rfl tc0
  have t13 := g_ag_at hA (c := 13) rfl tc13
  have t69 := g_ag_at hA (c := 69) rfl tc69
  unfold m_X10_sure
  refine G_iload_n C dX10_sure_0 rfl 1 rfl ?_
  refine G_iconst C dX10_sure_1 (v := 1) (by decide +kernel) ?_
  refine G_icmp_lt C dX10_sure_2 (tgt := 10) (by decide) (fun c1 => ?_) (fun c1 => ?_)
  · refine G_ldc C dX10_sure_10 c_X10_sure_96 ?_
    exact G_iret C q dX10_sure_12
  · refine G_iload_n C dX10_sure_5 rfl 1 rfl ?_
    refine G_iconst C dX10_sure_6 (v := 4) (by decide +kernel) ?_
    refine G_icmp_le C dX10_sure_7 (tgt := 13) (by decide) (fun c2 => ?_) (fun c2 => ?_)
    · refine G_aload_n C dX10_sure_13 rfl 0 rfl ?_
      refine G_getR C f_X10_sure_23 t0 rfl dX10_sure_14 ?_
      refine G_getI C f_X10_sure_124 t13 rfl dX10_sure_17 ?_
      refine G_if_ne C dX10_sure_20 (tgt := 26) (by decide) (fun c3 => ?_) (fun c3 => ?_)
      · refine G_ldc C dX10_sure_23 c_X10_sure_206 ?_
        exact G_iret C q dX10_sure_25
      · refine G_aload_n C dX10_sure_26 rfl 0 rfl ?_
        refine G_getR C f_X10_sure_72 t0 rfl dX10_sure_27 ?_
        refine G_aload_n C dX10_sure_30 rfl 0 rfl ?_
        refine G_getR C f_X10_sure_23 t0 rfl dX10_sure_31 ?_
        refine G_aload_n C dX10_sure_34 rfl 0 rfl ?_
        refine G_getR C f_X10_sure_30 t0 rfl dX10_sure_35 ?_
        refine G_iload_n C dX10_sure_38 rfl 1 rfl ?_
        refine G_callV (rest := []) (fun a ha => g_runV C (nargs := 3) (As := [.ref (g_b X + 13), .ref (g_b X + 16), .int x1]) (rest := []) gX10_sure_X1_search rfl (by decide +kernel) rfl t69 rfl rfl rfl rfl dX10_sure_39 (k_m_X1_search X.1.2.1 X.2.1 (g_n X) (g_T X) (g_ag_sub hA (by decide +kernel)) N x1 σ a ha)) (fun σ4 => ?_)
        refine G_aload_n C dX10_sure_42 rfl 0 rfl ?_
        refine G_getR C f_X10_sure_72 t0 rfl dX10_sure_43 ?_
        refine G_getI C f_X10_sure_286 t69 rfl dX10_sure_46 ?_
        refine G_if_ne C dX10_sure_49 (tgt := 56) (by decide) (fun c5 => ?_) (fun c5 => ?_)
        · refine G_iconst C dX10_sure_52 (v := 0) (by decide +kernel) ?_
          refine G_goto C dX10_sure_53 (tgt := 63) (by decide) ?_
          exact G_iret C q dX10_sure_63
        · refine G_aload_n C dX10_sure_56 rfl 0 rfl ?_
          refine G_getR C f_X10_sure_72 t0 rfl dX10_sure_57 ?_
          refine G_getI C f_X10_sure_292 t69 rfl dX10_sure_60 ?_
          exact G_iret C q dX10_sure_63
    · refine G_ldc C dX10_sure_10 c_X10_sure_96 ?_
      exact G_iret C q dX10_sure_12
theorem k_m_X10_sure (l : Launch) (E : g_E) (n : Nat) (T : Nat → g_Sh) (hA : g_ag L_m_X10_sure n T) (N : Nat) (x1 : Int32) (σ : g_St) (a : Int32 × g_St) (h : m_X10_sure N x1 σ = some a) : Met l yX10_sure wsX10_sure rm_m_X10_sure (g_Pc E n T [.ref (E.2.1 + 0), .int x1] σ) (g_Qi E n T a) 0 0 (g_A E) :=
  g_metI (by decide +kernel) rfl rfl (Nat.le_of_ble_eq_true rfl) (fun M Qf C q => by rw [← h]; exact w_m_X10_sure_0 C q hA N x1 σ)
def L_m_X10_write : List Nat := [0, 13, 74, 75]
abbrev rm_m_X10_write : Room := { frames := 1, cells := 0, slots := 0, locals := 21 }
theorem f_X10_write_157 : g_Fld wsX10_write RX10 157 0 1 := ⟨RX0, TX0, 2, rfl, by decide +kernel, by decide, by decide +kernel⟩
theorem f_X10_write_79 : g_Fld wsX10_write RX10 79 10 10 := ⟨RX10, TX10, 15, rfl, by decide +kernel, by decide, by decide +kernel⟩
theorem c_X10_write_167 : Cond.constant RX10 167 (-1000000001) ∈ wsX10_write := by decide +kernel
theorem c_X10_write_97 : Cond.constant RX10 97 (-1000000004) ∈ wsX10_write := by decide +kernel
set_option maxHeartbeats 4000000 in
set_option maxRecDepth 100000 in
theorem w_m_X10_write_0 {X : g_X (Int32 × g_St)} (C : g_C X cX10_write RX10 wsX10_write rm_m_X10_write 2) (q : g_qI X) (hA : g_ag L_m_X10_write (g_n X) (g_T X)) (x1 : Int32) (σ : g_St) : G X 0 [(0, .ref (g_b X + 0)), (1, .int x1)] [] σ (m_X10_write x1 σ) := by
  have t0 := g_ag_at hA (c := 0) rfl tc0
  have t74 := g_ag_at hA (c := 74) rfl tc74
  unfold m_X10_write
  refine G_aload_n C dX10_write_0 rfl 0 rfl ?_
  refine G_iload_n C dX10_write_1 rfl 1 rfl ?_
  refine G_callI (rest := []) (fun a ha => g_runV C (nargs := 1) (As := [.int x1]) (rest := []) gX10_write_X10_isTicket rfl (by decide +kernel) rfl t0 rfl rfl rfl rfl dX10_write_2 (k_m_X10_isTicket X.1.2.1 X.2.1 (g_n X) (g_T X) (g_ag_sub hA (by decide +kernel)) x1 σ a ha)) (fun q1 => ?_)
  refine G_if_ne C dX10_write_5 (tgt := 11) (by decide) (fun c2 => ?_) (fun c2 => ?_)
  · refine G_ldc C dX10_write_8 c_X10_write_167 ?_
    exact G_iret C q dX10_write_10
  · refine G_aload_n C dX10_write_11 rfl 0 rfl ?_
    refine G_getR C f_X10_write_79 t0 rfl dX10_write_12 ?_
    refine G_getI C f_X10_write_157 t74 rfl dX10_write_15 ?_
    refine G_bipush C dX10_write_18 (v := 20) (by decide +kernel) ?_
    refine G_icmp_lt C dX10_write_20 (tgt := 26) (by decide) (fun c3 => ?_) (fun c3 => ?_)
    · refine G_aload_n C dX10_write_26 rfl 0 rfl ?_
      refine G_getR C f_X10_write_79 t0 rfl dX10_write_27 ?_
      refine G_iload_n C dX10_write_30 rfl 1 rfl ?_
      refine G_callI (rest := []) (fun a ha => g_runV C (nargs := 1) (As := [.int x1]) (rest := []) gX10_write_X0_add rfl (by decide +kernel) rfl t74 rfl rfl rfl rfl dX10_write_31 (k_m_X0_add X.1.2.1 X.2.1 (g_n X) (g_T X) (g_ag_sub hA (by decide +kernel)) x1 q1.2 a ha)) (fun q4 => ?_)
      exact G_iret C q dX10_write_34
    · refine G_ldc C dX10_write_23 c_X10_write_97 ?_
      exact G_iret C q dX10_write_25
theorem k_m_X10_write (l : Launch) (E : g_E) (n : Nat) (T : Nat → g_Sh) (hA : g_ag L_m_X10_write n T) (x1 : Int32) (σ : g_St) (a : Int32 × g_St) (h : m_X10_write x1 σ = some a) : Met l yX10_write wsX10_write rm_m_X10_write (g_Pc E n T [.ref (E.2.1 + 0), .int x1] σ) (g_Qi E n T a) 0 0 (g_A E) :=
  g_metI (by decide +kernel) rfl rfl (Nat.le_of_ble_eq_true rfl) (fun M Qf C q => by rw [← h]; exact w_m_X10_write_0 C q hA x1 σ)
def L_m_X10_judge : List Nat := [0, 13, 16, 74, 75]
abbrev rm_m_X10_judge : Room := { frames := 4, cells := 0, slots := 0, locals := 95 }
theorem f_X10_judge_23 : g_Fld wsX10_judge RX10 23 10 2 := ⟨RX10, TX10, 15, rfl, by decide +kernel, by decide, by decide +kernel⟩
theorem f_X10_judge_30 : g_Fld wsX10_judge RX10 30 10 3 := ⟨RX10, TX10, 15, rfl, by decide +kernel, by decide, by decide +kernel⟩
theorem f_X10_judge_79 : g_Fld wsX10_judge RX10 79 10 10 := ⟨RX10, TX10, 15, rfl, by decide +kernel, by decide, by decide +kernel⟩
set_option maxHeartbeats 4000000 in
set_option maxRecDepth 100000 in
theorem w_m_X10_judge_0 {X : g_X (Int32 × g_St)} (C : g_C X cX10_judge RX10 wsX10_judge rm_m_X10_judge 1) (q : g_qI X) (hA : g_ag L_m_X10_judge (g_n X) (g_T X)) (N : Nat) (σ : g_St) : G X 0 [(0, .ref (g_b X + 0))] [] σ (m_X10_judge N σ) := by
  have t0 := g_ag_at hA (c := 0) rfl tc0
  have t74 := g_ag_at hA (c := 74) rfl tc74
  unfold m_X10_judge
  refine G_aload_n C dX10_judge_0 rfl 0 rfl ?_
  refine G_getR C f_X10_judge_79 t0 rfl dX10_judge_1 ?_
  refine G_aload_n C dX10_judge_4 rfl 0 rfl ?_
  refine G_getR C f_X10_judge_23 t0 rfl dX10_judge_5 ?_
  refine G_aload_n C dX10_judge_8 rfl 0 rfl ?_
  refine G_getR C f_X10_judge_30 t0 rfl dX10_judge_9 ?_
  refine G_callI (rest := []) (fun a ha => g_runV C (nargs := 2) (As := [.ref (g_b X + 13), .ref (g_b X + 16)]) (rest := []) gX10_judge_X0_wrong rfl (by decide +kernel) rfl t74 rfl rfl rfl rfl dX10_judge_12 (k_m_X0_wrong X.1.2.1 X.2.1 (g_n X) (g_T X) (g_ag_sub hA (by decide +kernel)) N σ a ha)) (fun q1 => ?_)
  exact G_iret C q dX10_judge_15
theorem k_m_X10_judge (l : Launch) (E : g_E) (n : Nat) (T : Nat → g_Sh) (hA : g_ag L_m_X10_judge n T) (N : Nat) (σ : g_St) (a : Int32 × g_St) (h : m_X10_judge N σ = some a) : Met l yX10_judge wsX10_judge rm_m_X10_judge (g_Pc E n T [.ref (E.2.1 + 0)] σ) (g_Qi E n T a) 0 0 (g_A E) :=
  g_metI (by decide +kernel) rfl rfl (Nat.le_of_ble_eq_true rfl) (fun M Qf C q => by rw [← h]; exact w_m_X10_judge_0 C q hA N σ)
def L_m_X10_ageBy : List Nat := [0, 13, 16, 17, 19, 20, 74, 75]
abbrev rm_m_X10_ageBy : Room := { frames := 5, cells := 0, slots := 0, locals := 122 }
theorem f_X10_ageBy_23 : g_Fld wsX10_ageBy RX10 23 10 2 := ⟨RX10, TX10, 15, rfl, by decide +kernel, by decide, by decide +kernel⟩
theorem f_X10_ageBy_30 : g_Fld wsX10_ageBy RX10 30 10 3 := ⟨RX10, TX10, 15, rfl, by decide +kernel, by decide, by decide +kernel⟩
theorem f_X10_ageBy_79 : g_Fld wsX10_ageBy RX10 79 10 10 := ⟨RX10, TX10, 15, rfl, by decide +kernel, by decide, by decide +kernel⟩
theorem c_X10_ageBy_167 : Cond.constant RX10 167 (-1000000001) ∈ wsX10_ageBy := by decide +kernel
set_option maxHeartbeats 4000000 in
set_option maxRecDepth 100000 in
theorem w_m_X10_ageBy_0 {X : g_X (Int32 × g_St)} (C : g_C X cX10_ageBy RX10 wsX10_ageBy rm_m_X10_ageBy 2) (q : g_qI X) (hA : g_ag L_m_X10_ageBy (g_n X) (g_T X)) (N : Nat) (x1 : Int32) (σ : g_St) : G X 0 [(0, .ref (g_b X + 0)), (1, .int x1)] [] σ (m_X10_ageBy N x1 σ) := by
  have t0 := g_ag_at hA (c := 0) rfl tc0
  have t74 := g_ag_at hA (c := 74) rfl tc74
  unfold m_X10_ageBy
  refine G_aload_n C dX10_ageBy_0 rfl 0 rfl ?_
  refine G_iload_n C dX10_ageBy_1 rfl 1 rfl ?_
  refine G_callI (rest := []) (fun a ha => g_runV C (nargs := 1) (As := [.int x1]) (rest := []) gX10_ageBy_X10_isPerson rfl (by decide +kernel) rfl t0 rfl rfl rfl rfl dX10_ageBy_2 (k_m_X10_isPerson X.1.2.1 X.2.1 (g_n X) (g_T X) (g_ag_sub hA (by decide +kernel)) x1 σ a ha)) (fun q1 => ?_)
  refine G_if_ne C dX10_ageBy_5 (tgt := 11) (by decide) (fun c2 => ?_) (fun c2 => ?_)
  · refine G_ldc C dX10_ageBy_8 c_X10_ageBy_167 ?_
    exact G_iret C q dX10_ageBy_10
  · refine G_aload_n C dX10_ageBy_11 rfl 0 rfl ?_
    refine G_getR C f_X10_ageBy_79 t0 rfl dX10_ageBy_12 ?_
    refine G_aload_n C dX10_ageBy_15 rfl 0 rfl ?_
    refine G_getR C f_X10_ageBy_23 t0 rfl dX10_ageBy_16 ?_
    refine G_aload_n C dX10_ageBy_19 rfl 0 rfl ?_
    refine G_getR C f_X10_ageBy_30 t0 rfl dX10_ageBy_20 ?_
    refine G_iload_n C dX10_ageBy_23 rfl 1 rfl ?_
    refine G_callI (rest := []) (fun a ha => g_runV C (nargs := 3) (As := [.ref (g_b X + 13), .ref (g_b X + 16), .int x1]) (rest := []) gX10_ageBy_X0_ageBehind rfl (by decide +kernel) rfl t74 rfl rfl rfl rfl dX10_ageBy_24 (k_m_X0_ageBehind X.1.2.1 X.2.1 (g_n X) (g_T X) (g_ag_sub hA (by decide +kernel)) N x1 q1.2 a ha)) (fun q3 => ?_)
    exact G_iret C q dX10_ageBy_27
theorem k_m_X10_ageBy (l : Launch) (E : g_E) (n : Nat) (T : Nat → g_Sh) (hA : g_ag L_m_X10_ageBy n T) (N : Nat) (x1 : Int32) (σ : g_St) (a : Int32 × g_St) (h : m_X10_ageBy N x1 σ = some a) : Met l yX10_ageBy wsX10_ageBy rm_m_X10_ageBy (g_Pc E n T [.ref (E.2.1 + 0), .int x1] σ) (g_Qi E n T a) 0 0 (g_A E) :=
  g_metI (by decide +kernel) rfl rfl (Nat.le_of_ble_eq_true rfl) (fun M Qf C q => by rw [← h]; exact w_m_X10_ageBy_0 C q hA N x1 σ)
def L_m_X10_tear : List Nat := [0, 67, 69, 74]
abbrev rm_m_X10_tear : Room := { frames := 1, cells := 0, slots := 0, locals := 20 }
theorem f_X10_tear_153 : g_Fld wsX10_tear RX10 153 8 1 := ⟨RX8, TX8, 2, rfl, by decide +kernel, by decide, by decide +kernel⟩
theorem f_X10_tear_156 : g_Fld wsX10_tear RX10 156 1 4 := ⟨RX1, TX1, 8, rfl, by decide +kernel, by decide, by decide +kernel⟩
theorem f_X10_tear_157 : g_Fld wsX10_tear RX10 157 0 1 := ⟨RX0, TX0, 2, rfl, by decide +kernel, by decide, by decide +kernel⟩
theorem f_X10_tear_65 : g_Fld wsX10_tear RX10 65 10 8 := ⟨RX10, TX10, 15, rfl, by decide +kernel, by decide, by decide +kernel⟩
theorem f_X10_tear_72 : g_Fld wsX10_tear RX10 72 10 9 := ⟨RX10, TX10, 15, rfl, by decide +kernel, by decide, by decide +kernel⟩
theorem f_X10_tear_79 : g_Fld wsX10_tear RX10 79 10 10 := ⟨RX10, TX10, 15, rfl, by decide +kernel, by decide, by decide +kernel⟩
set_option maxHeartbeats 4000000 in
set_option maxRecDepth 100000 in
theorem w_m_X10_tear_0 {X : g_X (Int32 × g_St)} (C : g_C X cX10_tear RX10 wsX10_tear rm_m_X10_tear 2) (q : g_qI X) (hA : g_ag L_m_X10_tear (g_n X) (g_T X)) (σ : g_St) : G X 0 [(0, .ref (g_b X + 0))] [] σ (m_X10_tear σ) := by
  have t0 := g_ag_at hA (c := 0) rfl tc0
  have t67 := g_ag_at hA (c := 67) rfl tc67
  have t69 := g_ag_at hA (c := 69) rfl tc69
  have t74 := g_ag_at hA (c := 74) rfl tc74
  unfold m_X10_tear
  refine G_aload_n C dX10_tear_0 rfl 0 rfl ?_
  refine G_getR C f_X10_tear_65 t0 rfl dX10_tear_1 ?_
  refine G_getI C f_X10_tear_153 t67 rfl dX10_tear_4 ?_
  refine G_aload_n C dX10_tear_7 rfl 0 rfl ?_
  refine G_getR C f_X10_tear_72 t0 rfl dX10_tear_8 ?_
  refine G_getI C f_X10_tear_156 t69 rfl dX10_tear_11 ?_
  refine G_callI (rest := [.int (σ.1 67 1)]) (fun a ha => g_runS C (nargs := 1) (As := [.int (σ.1 69 4)]) (rest := [.int (σ.1 67 1)]) gX10_tear_J6_bitCount_0f7a4 rfl (by decide +kernel) rfl rfl rfl dX10_tear_14 (k_m_J6_bitCount X.1.2.1 X.2.1 (g_n X) (g_T X) (g_ag_sub hA (by decide +kernel)) (σ.1 69 4) σ a ha)) (fun q1 => ?_)
  refine G_iadd C dX10_tear_17 ?_
  refine G_aload_n C dX10_tear_18 rfl 0 rfl ?_
  refine G_getR C f_X10_tear_79 t0 rfl dX10_tear_19 ?_
  refine G_getI C f_X10_tear_157 t74 rfl dX10_tear_22 ?_
  refine G_iadd C dX10_tear_25 ?_
  refine G_lti (fun v2 => ?_)
  refine G_istore_n C dX10_tear_26 rfl rfl (lv' := [(1, .int v2), (0, .ref (g_b X + 0))]) rfl ?_
  refine G_aload_n C dX10_tear_27 rfl 1 rfl ?_
  refine G_callV (rest := []) (fun a ha => g_runV C (nargs := 0) (As := []) (rest := []) gX10_tear_X10_forgetSeen rfl (by decide +kernel) rfl t0 rfl rfl rfl rfl dX10_tear_28 (k_m_X10_forgetSeen X.1.2.1 X.2.1 (g_n X) (g_T X) (g_ag_sub hA (by decide +kernel)) q1.2 a ha)) (fun σ3 => ?_)
  refine G_iload_n C dX10_tear_31 rfl 0 rfl ?_
  exact G_iret C q dX10_tear_32
theorem k_m_X10_tear (l : Launch) (E : g_E) (n : Nat) (T : Nat → g_Sh) (hA : g_ag L_m_X10_tear n T) (σ : g_St) (a : Int32 × g_St) (h : m_X10_tear σ = some a) : Met l yX10_tear wsX10_tear rm_m_X10_tear (g_Pc E n T [.ref (E.2.1 + 0)] σ) (g_Qi E n T a) 0 0 (g_A E) :=
  g_metI (by decide +kernel) rfl rfl (Nat.le_of_ble_eq_true rfl) (fun M Qf C q => by rw [← h]; exact w_m_X10_tear_0 C q hA σ)
def L_m_X10_seed : List Nat := [0]
abbrev rm_m_X10_seed : Room := { frames := 0, cells := 0, slots := 0, locals := 0 }
theorem f_X10_seed_93 : g_Fld wsX10_seed RX10 93 10 14 := ⟨RX10, TX10, 15, rfl, by decide +kernel, by decide, by decide +kernel⟩
theorem p_X10_seed_93 : g_FldP wsX10_seed RX10 93 10 14 .int := ⟨RX10, TX10, 15, tyX10, rfl, by decide +kernel, by decide, by decide +kernel, tyX10_ok, nmX10, rfl, by decide +kernel⟩
theorem c_X10_seed_96 : Cond.constant RX10 96 (-1000000002) ∈ wsX10_seed := by decide +kernel
set_option maxHeartbeats 4000000 in
set_option maxRecDepth 100000 in
theorem w_m_X10_seed_0 {X : g_X (Int32 × g_St)} (C : g_C X cX10_seed RX10 wsX10_seed rm_m_X10_seed 3) (q : g_qI X) (hA : g_ag L_m_X10_seed (g_n X) (g_T X)) (x1 : Int32) (σ : g_St) : G X 0 [(0, .ref (g_b X + 0)), (1, .int x1)] [] σ (m_X10_seed x1 σ) := by
  have t0 := g_ag_at hA (c := 0) rfl tc0
  unfold m_X10_seed
  refine G_iload_n C dX10_seed_0 rfl 1 rfl ?_
  refine G_if_ge C dX10_seed_1 (tgt := 7) (by decide) (fun c1 => ?_) (fun c1 => ?_)
  · refine G_aload_n C dX10_seed_7 rfl 0 rfl ?_
    refine G_getI C f_X10_seed_93 t0 rfl dX10_seed_8 ?_
    refine G_lti (fun v2 => ?_)
    refine G_istore_n C dX10_seed_11 rfl rfl (lv' := [(2, .int v2), (0, .ref (g_b X + 0)), (1, .int x1)]) rfl ?_
    refine G_aload_n C dX10_seed_12 rfl 1 rfl ?_
    refine G_iload_n C dX10_seed_13 rfl 2 rfl ?_
    refine G_putI C p_X10_seed_93 t0 rfl rfl rfl dX10_seed_14 ?_
    refine G_lts (fun σ3 => ?_)
    refine G_iload_n C dX10_seed_17 rfl 0 rfl ?_
    exact G_iret C q dX10_seed_18
  · refine G_ldc C dX10_seed_4 c_X10_seed_96 ?_
    exact G_iret C q dX10_seed_6
theorem k_m_X10_seed (l : Launch) (E : g_E) (n : Nat) (T : Nat → g_Sh) (hA : g_ag L_m_X10_seed n T) (x1 : Int32) (σ : g_St) (a : Int32 × g_St) (h : m_X10_seed x1 σ = some a) : Met l yX10_seed wsX10_seed rm_m_X10_seed (g_Pc E n T [.ref (E.2.1 + 0), .int x1] σ) (g_Qi E n T a) 0 0 (g_A E) :=
  g_metI (by decide +kernel) rfl rfl (Nat.le_of_ble_eq_true rfl) (fun M Qf C q => by rw [← h]; exact w_m_X10_seed_0 C q hA x1 σ)
def L_m_X10_keep : List Nat := [0, 16, 17, 18, 19, 20, 21, 22, 54, 55, 56, 57, 58]
abbrev rm_m_X10_keep : Room := { frames := 3, cells := 0, slots := 0, locals := 105 }
theorem f_X10_keep_30 : g_Fld wsX10_keep RX10 30 10 3 := ⟨RX10, TX10, 15, rfl, by decide +kernel, by decide, by decide +kernel⟩
theorem f_X10_keep_37 : g_Fld wsX10_keep RX10 37 10 4 := ⟨RX10, TX10, 15, rfl, by decide +kernel, by decide, by decide +kernel⟩
theorem f_X10_keep_44 : g_Fld wsX10_keep RX10 44 10 5 := ⟨RX10, TX10, 15, rfl, by decide +kernel, by decide, by decide +kernel⟩
theorem f_X10_keep_93 : g_Fld wsX10_keep RX10 93 10 14 := ⟨RX10, TX10, 15, rfl, by decide +kernel, by decide, by decide +kernel⟩
theorem c_X10_keep_167 : Cond.constant RX10 167 (-1000000001) ∈ wsX10_keep := by decide +kernel
set_option maxHeartbeats 4000000 in
set_option maxRecDepth 100000 in
theorem w_m_X10_keep_0 {X : g_X (Int32 × g_St)} (C : g_C X cX10_keep RX10 wsX10_keep rm_m_X10_keep 2) (q : g_qI X) (hA : g_ag L_m_X10_keep (g_n X) (g_T X)) (x1 : Int32) (σ : g_St) : G X 0 [(0, .ref (g_b X + 0)), (1, .int x1)] [] σ (m_X10_keep x1 σ) := by
  have t0 := g_ag_at hA (c := 0) rfl tc0
  have t22 := g_ag_at hA (c := 22) rfl tc22
  have t54 := g_ag_at hA (c := 54) rfl tc54
  unfold m_X10_keep
  refine G_iload_n C dX10_keep_0 rfl 1 rfl ?_
  refine G_if_lt C dX10_keep_1 (tgt := 9) (by decide) (fun c1 => ?_) (fun c1 => ?_)
  · refine G_ldc C dX10_keep_9 c_X10_keep_167 ?_
    exact G_iret C q dX10_keep_11
  · refine G_iload_n C dX10_keep_4 rfl 1 rfl ?_
    refine G_iconst C dX10_keep_5 (v := 2) (by decide +kernel) ?_
    refine G_icmp_lt C dX10_keep_6 (tgt := 12) (by decide) (fun c2 => ?_) (fun c2 => ?_)
    · refine G_aload_n C dX10_keep_12 rfl 0 rfl ?_
      refine G_getR C f_X10_keep_44 t0 rfl dX10_keep_13 ?_
      refine G_iload_n C dX10_keep_16 rfl 1 rfl ?_
      refine G_aload_n C dX10_keep_17 rfl 0 rfl ?_
      refine G_getR C f_X10_keep_30 t0 rfl dX10_keep_18 ?_
      refine G_aload_n C dX10_keep_21 rfl 0 rfl ?_
      refine G_getI C f_X10_keep_93 t0 rfl dX10_keep_22 ?_
      refine G_callV (rest := []) (fun a ha => g_runV C (nargs := 3) (As := [.int x1, .ref (g_b X + 16), .int (σ.1 0 14)]) (rest := []) gX10_keep_X3_store rfl (by decide +kernel) rfl t54 rfl rfl rfl rfl dX10_keep_25 (k_m_X3_store X.1.2.1 X.2.1 (g_n X) (g_T X) (g_ag_sub hA (by decide +kernel)) x1 (σ.1 0 14) σ a ha)) (fun σ3 => ?_)
      refine G_aload_n C dX10_keep_28 rfl 0 rfl ?_
      refine G_getR C f_X10_keep_37 t0 rfl dX10_keep_29 ?_
      refine G_callV (rest := []) (fun a ha => g_runV C (nargs := 0) (As := []) (rest := []) gX10_keep_X5_clear rfl (by decide +kernel) rfl t22 rfl rfl rfl rfl dX10_keep_32 (k_m_X5_clear X.1.2.1 X.2.1 (g_n X) (g_T X) (g_ag_sub hA (by decide +kernel)) σ3 a ha)) (fun σ4 => ?_)
      refine G_iconst C dX10_keep_35 (v := 1) (by decide +kernel) ?_
      exact G_iret C q dX10_keep_36
    · refine G_ldc C dX10_keep_9 c_X10_keep_167 ?_
      exact G_iret C q dX10_keep_11
theorem k_m_X10_keep (l : Launch) (E : g_E) (n : Nat) (T : Nat → g_Sh) (hA : g_ag L_m_X10_keep n T) (x1 : Int32) (σ : g_St) (a : Int32 × g_St) (h : m_X10_keep x1 σ = some a) : Met l yX10_keep wsX10_keep rm_m_X10_keep (g_Pc E n T [.ref (E.2.1 + 0), .int x1] σ) (g_Qi E n T a) 0 0 (g_A E) :=
  g_metI (by decide +kernel) rfl rfl (Nat.le_of_ble_eq_true rfl) (fun M Qf C q => by rw [← h]; exact w_m_X10_keep_0 C q hA x1 σ)
def L_m_X10_goBack : List Nat := [0, 16, 17, 18, 19, 20, 21, 22, 54, 55, 56, 57, 58]
abbrev rm_m_X10_goBack : Room := { frames := 3, cells := 0, slots := 0, locals := 104 }
theorem f_X10_goBack_30 : g_Fld wsX10_goBack RX10 30 10 3 := ⟨RX10, TX10, 15, rfl, by decide +kernel, by decide, by decide +kernel⟩
theorem f_X10_goBack_37 : g_Fld wsX10_goBack RX10 37 10 4 := ⟨RX10, TX10, 15, rfl, by decide +kernel, by decide, by decide +kernel⟩
theorem f_X10_goBack_44 : g_Fld wsX10_goBack RX10 44 10 5 := ⟨RX10, TX10, 15, rfl, by decide +kernel, by decide, by decide +kernel⟩
theorem p_X10_goBack_93 : g_FldP wsX10_goBack RX10 93 10 14 .int := ⟨RX10, TX10, 15, tyX10, rfl, by decide +kernel, by decide, by decide +kernel, tyX10_ok, nmX10, rfl, by decide +kernel⟩
theorem c_X10_goBack_167 : Cond.constant RX10 167 (-1000000001) ∈ wsX10_goBack := by decide +kernel
theorem c_X10_goBack_206 : Cond.constant RX10 206 (-1000000003) ∈ wsX10_goBack := by decide +kernel
set_option maxHeartbeats 4000000 in
set_option maxRecDepth 100000 in
theorem w_m_X10_goBack_0 {X : g_X (Int32 × g_St)} (C : g_C X cX10_goBack RX10 wsX10_goBack rm_m_X10_goBack 2) (q : g_qI X) (hA : g_ag L_m_X10_goBack (g_n X) (g_T X)) (x1 : Int32) (σ : g_St) : G X 0 [(0, .ref (g_b X + 0)), (1, .int x1)] [] σ (m_X10_goBack x1 σ) := by
  have t0 := g_ag_at hA (c := 0) rfl tc0
  have t22 := g_ag_at hA (c := 22) rfl tc22
  have t54 := g_ag_at hA (c := 54) rfl tc54
  unfold m_X10_goBack
  refine G_iload_n C dX10_goBack_0 rfl 1 rfl ?_
  refine G_if_lt C dX10_goBack_1 (tgt := 9) (by decide) (fun c1 => ?_) (fun c1 => ?_)
  · refine G_ldc C dX10_goBack_9 c_X10_goBack_167 ?_
    exact G_iret C q dX10_goBack_11
  · refine G_iload_n C dX10_goBack_4 rfl 1 rfl ?_
    refine G_iconst C dX10_goBack_5 (v := 2) (by decide +kernel) ?_
    refine G_icmp_lt C dX10_goBack_6 (tgt := 12) (by decide) (fun c2 => ?_) (fun c2 => ?_)
    · refine G_aload_n C dX10_goBack_12 rfl 0 rfl ?_
      refine G_getR C f_X10_goBack_44 t0 rfl dX10_goBack_13 ?_
      refine G_iload_n C dX10_goBack_16 rfl 1 rfl ?_
      refine G_callI (rest := []) (fun a ha => g_runV C (nargs := 1) (As := [.int x1]) (rest := []) gX10_goBack_X3_has rfl (by decide +kernel) rfl t54 rfl rfl rfl rfl dX10_goBack_17 (k_m_X3_has X.1.2.1 X.2.1 (g_n X) (g_T X) (g_ag_sub hA (by decide +kernel)) x1 σ a ha)) (fun q3 => ?_)
      refine G_if_ne C dX10_goBack_20 (tgt := 26) (by decide) (fun c4 => ?_) (fun c4 => ?_)
      · refine G_ldc C dX10_goBack_23 c_X10_goBack_206 ?_
        exact G_iret C q dX10_goBack_25
      · refine G_aload_n C dX10_goBack_26 rfl 0 rfl ?_
        refine G_aload_n C dX10_goBack_27 rfl 0 rfl ?_
        refine G_getR C f_X10_goBack_44 t0 rfl dX10_goBack_28 ?_
        refine G_iload_n C dX10_goBack_31 rfl 1 rfl ?_
        refine G_aload_n C dX10_goBack_32 rfl 0 rfl ?_
        refine G_getR C f_X10_goBack_30 t0 rfl dX10_goBack_33 ?_
        refine G_callI (rest := [.ref (g_b X + 0)]) (fun a ha => g_runV C (nargs := 2) (As := [.int x1, .ref (g_b X + 16)]) (rest := [.ref (g_b X + 0)]) gX10_goBack_X3_restore rfl (by decide +kernel) rfl t54 rfl rfl rfl rfl dX10_goBack_36 (k_m_X3_restore X.1.2.1 X.2.1 (g_n X) (g_T X) (g_ag_sub hA (by decide +kernel)) x1 q3.2 a ha)) (fun q5 => ?_)
        refine G_putI C p_X10_goBack_93 t0 rfl rfl rfl dX10_goBack_39 ?_
        refine G_lts (fun σ6 => ?_)
        refine G_aload_n C dX10_goBack_42 rfl 0 rfl ?_
        refine G_getR C f_X10_goBack_37 t0 rfl dX10_goBack_43 ?_
        refine G_callV (rest := []) (fun a ha => g_runV C (nargs := 0) (As := []) (rest := []) gX10_goBack_X5_clear rfl (by decide +kernel) rfl t22 rfl rfl rfl rfl dX10_goBack_46 (k_m_X5_clear X.1.2.1 X.2.1 (g_n X) (g_T X) (g_ag_sub hA (by decide +kernel)) σ6 a ha)) (fun σ7 => ?_)
        refine G_iconst C dX10_goBack_49 (v := 1) (by decide +kernel) ?_
        exact G_iret C q dX10_goBack_50
    · refine G_ldc C dX10_goBack_9 c_X10_goBack_167 ?_
      exact G_iret C q dX10_goBack_11
theorem k_m_X10_goBack (l : Launch) (E : g_E) (n : Nat) (T : Nat → g_Sh) (hA : g_ag L_m_X10_goBack n T) (x1 : Int32) (σ : g_St) (a : Int32 × g_St) (h : m_X10_goBack x1 σ = some a) : Met l yX10_goBack wsX10_goBack rm_m_X10_goBack (g_Pc E n T [.ref (E.2.1 + 0), .int x1] σ) (g_Qi E n T a) 0 0 (g_A E) :=
  g_metI (by decide +kernel) rfl rfl (Nat.le_of_ble_eq_true rfl) (fun M Qf C q => by rw [← h]; exact w_m_X10_goBack_0 C q hA x1 σ)
def L_m_X11_in : List Nat := []
abbrev rm_m_X11_in : Room := { frames := 0, cells := 0, slots := 0, locals := 0 }
set_option maxHeartbeats 4000000 in
set_option maxRecDepth 100000 in
theorem w_m_X11_in_0 {X : g_X (Int32 × g_St)} (C : g_C X cX11_in RX11 wsX11_in rm_m_X11_in 6) (q : g_qZ X) (hA : g_ag L_m_X11_in (g_n X) (g_T X)) (x0 : Int64) (x2 : Int64) (x4 : Int64) (σ : g_St) : G X 0 [(0, .long x0), (2, .long x2), (4, .long x4)] [] σ (m_X11_in x0 x2 x4 σ) := by
  unfold m_X11_in
  refine G_lload_n C dX11_in_0 rfl 0 rfl ?_
  refine G_lload_n C dX11_in_1 rfl 1 rfl ?_
  refine G_lcmp C dX11_in_2 ?_
  refine G_if_lt C dX11_in_3 (tgt := 17) (by decide) (fun c1 => ?_) (fun c1 => ?_)
  · refine G_iconst C dX11_in_17 (v := 0) (by decide +kernel) ?_
    exact G_zret C q (by decide) dX11_in_18
  · refine G_lload_n C dX11_in_6 rfl 0 rfl ?_
    refine G_lload C dX11_in_7 2 rfl ?_
    refine G_lcmp C dX11_in_9 ?_
    refine G_if_gt C dX11_in_10 (tgt := 17) (by decide) (fun c2 => ?_) (fun c2 => ?_)
    · refine G_iconst C dX11_in_17 (v := 0) (by decide +kernel) ?_
      exact G_zret C q (by decide) dX11_in_18
    · refine G_iconst C dX11_in_13 (v := 1) (by decide +kernel) ?_
      refine G_goto C dX11_in_14 (tgt := 18) (by decide) ?_
      exact G_zret C q (by decide) dX11_in_18
theorem k_m_X11_in (l : Launch) (E : g_E) (n : Nat) (T : Nat → g_Sh) (hA : g_ag L_m_X11_in n T) (x0 : Int64) (x2 : Int64) (x4 : Int64) (σ : g_St) (a : Int32 × g_St) (h : m_X11_in x0 x2 x4 σ = some a) : Met l yX11_in wsX11_in rm_m_X11_in (g_Pc E n T [.long x0, .long x2, .long x4] σ) (g_Qi E n T a) 0 0 (g_A E) :=
  g_metZ (by decide +kernel) rfl rfl (Nat.le_of_ble_eq_true rfl) (fun M Qf C q => by rw [← h]; exact w_m_X11_in_0 C q hA x0 x2 x4 σ)
def L_m_X11_plain : List Nat := [77, 78]
abbrev rm_m_X11_plain : Room := { frames := 0, cells := 0, slots := 0, locals := 0 }
theorem f_X11_plain_7 : g_Fld wsX11_plain RX11 7 11 0 := ⟨RX11, TX11, 27, rfl, by decide +kernel, by decide, by decide +kernel⟩
set_option maxHeartbeats 4000000 in
set_option maxRecDepth 100000 in
theorem w_m_X11_plain_2 {X : g_X (g_St)} (C : g_C X cX11_plain RX11 wsX11_plain rm_m_X11_plain 2) (q : g_qV X) (hA : g_ag L_m_X11_plain (g_n X) (g_T X)) (N : Nat) : ∀ (fu : Nat) (x1 : Int32) (σ : g_St), G X 2 [(0, .ref (g_b X + 77)), (1, .int x1)] [] σ (m_X11_plain_2 N fu x1 σ) := by
  have t77 := g_ag_at hA (c := 77) rfl tc77
  have t78 := g_ag_at hA (c := 78) rfl tc78
  intro fu
  induction fu with
  | zero => intro x1 σ; exact G_none
  | succ fu ih =>
    intro x1 σ
    unfold m_X11_plain_2
    refine G_iload_n C dX11_plain_2 rfl 1 rfl ?_
    refine G_bipush C dX11_plain_3 (v := 45) (by decide +kernel) ?_
    refine G_icmp_ge C dX11_plain_5 (tgt := 21) (by decide) (fun c1 => ?_) (fun c1 => ?_)
    · refine G_aload_n C dX11_plain_21 rfl 0 rfl ?_
      refine G_getR C f_X11_plain_7 t77 rfl dX11_plain_22 ?_
      refine G_iconst C dX11_plain_25 (v := 2) (by decide +kernel) ?_
      refine G_iconst C dX11_plain_26 (v := 4) (by decide +kernel) ?_
      refine G_astk C t78 (by decide +kernel) (k := 2) rfl dX11_plain_27 ?_
      refine G_lts (fun σ2 => ?_)
      refine G_aload_n C dX11_plain_28 rfl 0 rfl ?_
      refine G_getR C f_X11_plain_7 t77 rfl dX11_plain_29 ?_
      refine G_iconst C dX11_plain_32 (v := 3) (by decide +kernel) ?_
      refine G_iconst C dX11_plain_33 (v := 1) (by decide +kernel) ?_
      refine G_astk C t78 (by decide +kernel) (k := 3) rfl dX11_plain_34 ?_
      refine G_lts (fun σ3 => ?_)
      refine G_aload_n C dX11_plain_35 rfl 0 rfl ?_
      refine G_getR C f_X11_plain_7 t77 rfl dX11_plain_36 ?_
      refine G_iconst C dX11_plain_39 (v := 5) (by decide +kernel) ?_
      refine G_bipush C dX11_plain_40 (v := 6) (by decide +kernel) ?_
      refine G_astk C t78 (by decide +kernel) (k := 5) rfl dX11_plain_42 ?_
      refine G_lts (fun σ4 => ?_)
      refine G_aload_n C dX11_plain_43 rfl 0 rfl ?_
      refine G_getR C f_X11_plain_7 t77 rfl dX11_plain_44 ?_
      refine G_bipush C dX11_plain_47 (v := 6) (by decide +kernel) ?_
      refine G_bipush C dX11_plain_49 (v := 18) (by decide +kernel) ?_
      refine G_astk C t78 (by decide +kernel) (k := 6) rfl dX11_plain_51 ?_
      refine G_lts (fun σ5 => ?_)
      refine G_aload_n C dX11_plain_52 rfl 0 rfl ?_
      refine G_getR C f_X11_plain_7 t77 rfl dX11_plain_53 ?_
      refine G_bipush C dX11_plain_56 (v := 7) (by decide +kernel) ?_
      refine G_bipush C dX11_plain_58 (v := 18) (by decide +kernel) ?_
      refine G_astk C t78 (by decide +kernel) (k := 7) rfl dX11_plain_60 ?_
      refine G_lts (fun σ6 => ?_)
      refine G_aload_n C dX11_plain_61 rfl 0 rfl ?_
      refine G_getR C f_X11_plain_7 t77 rfl dX11_plain_62 ?_
      refine G_bipush C dX11_plain_65 (v := 8) (by decide +kernel) ?_
      refine G_bipush C dX11_plain_67 (v := 65) (by decide +kernel) ?_
      refine G_astk C t78 (by decide +kernel) (k := 8) rfl dX11_plain_69 ?_
      refine G_lts (fun σ7 => ?_)
      exact G_vret C q dX11_plain_70
    · refine G_aload_n C dX11_plain_8 rfl 0 rfl ?_
      refine G_getR C f_X11_plain_7 t77 rfl dX11_plain_9 ?_
      refine G_iload_n C dX11_plain_12 rfl 1 rfl ?_
      refine G_iconst C dX11_plain_13 (v := 0) (by decide +kernel) ?_
      refine G_chk (fun h8 => ?_)
      refine G_ast C t78 h8 dX11_plain_14 ?_
      refine G_lts (fun σ9 => ?_)
      refine G_iinc C dX11_plain_15 1 rfl (v := (x1 + (1 : Int32))) (by rfl) rfl (lv' := [(1, .int (x1 + (1 : Int32))), (0, .ref (g_b X + 77))]) rfl ?_
      refine G_ltv (fun v => [(1, .int v), (0, .ref (g_b X + 77))]) (fun v10 => ?_)
      refine G_goto C dX11_plain_18 (tgt := 2) (by decide) ?_
      exact G_sub (ih v10 σ9) [1, 0] rfl
set_option maxHeartbeats 4000000 in
set_option maxRecDepth 100000 in
theorem w_m_X11_plain_0 {X : g_X (g_St)} (C : g_C X cX11_plain RX11 wsX11_plain rm_m_X11_plain 2) (q : g_qV X) (hA : g_ag L_m_X11_plain (g_n X) (g_T X)) (N : Nat) (σ : g_St) : G X 0 [(0, .ref (g_b X + 77))] [] σ (m_X11_plain N σ) := by
  unfold m_X11_plain
  refine G_iconst C dX11_plain_0 (v := 0) (by decide +kernel) ?_
  refine G_istore_n C dX11_plain_1 rfl rfl (lv' := [(1, .int (0 : Int32)), (0, .ref (g_b X + 77))]) rfl ?_
  exact G_sub (w_m_X11_plain_2 C q hA N N (0 : Int32) σ) [1, 0] rfl
theorem k_m_X11_plain (l : Launch) (E : g_E) (n : Nat) (T : Nat → g_Sh) (hA : g_ag L_m_X11_plain n T) (N : Nat) (σ : g_St) (a : g_St) (h : m_X11_plain N σ = some a) : Met l yX11_plain wsX11_plain rm_m_X11_plain (g_Pc E n T [.ref (E.2.1 + 77)] σ) (g_Qv E n T a) 0 0 (g_A E) :=
  g_metV (by decide +kernel) rfl rfl (Nat.le_of_ble_eq_true rfl) (fun M Qf C q => by rw [← h]; exact w_m_X11_plain_0 C q hA N σ)
def L_m_X11_all : List Nat := [77, 79]
abbrev rm_m_X11_all : Room := { frames := 0, cells := 0, slots := 0, locals := 0 }
theorem f_X11_all_13 : g_Fld wsX11_all RX11 13 11 1 := ⟨RX11, TX11, 27, rfl, by decide +kernel, by decide, by decide +kernel⟩
set_option maxHeartbeats 4000000 in
set_option maxRecDepth 100000 in
theorem w_m_X11_all_0 {X : g_X (Int32 × g_St)} (C : g_C X cX11_all RX11 wsX11_all rm_m_X11_all 1) (q : g_qI X) (hA : g_ag L_m_X11_all (g_n X) (g_T X)) (σ : g_St) : G X 0 [(0, .ref (g_b X + 77))] [] σ (m_X11_all σ) := by
  have t77 := g_ag_at hA (c := 77) rfl tc77
  have t79 := g_ag_at hA (c := 79) rfl tc79
  unfold m_X11_all
  refine G_iconst C dX11_all_0 (v := 1) (by decide +kernel) ?_
  refine G_aload_n C dX11_all_1 rfl 0 rfl ?_
  refine G_getR C f_X11_all_13 t77 rfl dX11_all_2 ?_
  refine G_iconst C dX11_all_5 (v := 1) (by decide +kernel) ?_
  refine G_aldk C t79 (by decide +kernel) (k := 1) rfl dX11_all_6 ?_
  refine G_ishl C dX11_all_7 ?_
  refine G_iconst C dX11_all_8 (v := 1) (by decide +kernel) ?_
  refine G_isub C dX11_all_9 ?_
  exact G_iret C q dX11_all_10
theorem k_m_X11_all (l : Launch) (E : g_E) (n : Nat) (T : Nat → g_Sh) (hA : g_ag L_m_X11_all n T) (σ : g_St) (a : Int32 × g_St) (h : m_X11_all σ = some a) : Met l yX11_all wsX11_all rm_m_X11_all (g_Pc E n T [.ref (E.2.1 + 77)] σ) (g_Qi E n T a) 0 0 (g_A E) :=
  g_metI (by decide +kernel) rfl rfl (Nat.le_of_ble_eq_true rfl) (fun M Qf C q => by rw [← h]; exact w_m_X11_all_0 C q hA σ)
def L_m_X11_starts : List Nat := [77, 78, 79, 81, 92]
abbrev rm_m_X11_starts : Room := { frames := 1, cells := 0, slots := 0, locals := 20 }
theorem f_X11_starts_13 : g_Fld wsX11_starts RX11 13 11 1 := ⟨RX11, TX11, 27, rfl, by decide +kernel, by decide, by decide +kernel⟩
theorem f_X11_starts_19 : g_Fld wsX11_starts RX11 19 11 7 := ⟨RX11, TX11, 27, rfl, by decide +kernel, by decide, by decide +kernel⟩
theorem f_X11_starts_52 : g_Fld wsX11_starts RX11 52 11 26 := ⟨RX11, TX11, 27, rfl, by decide +kernel, by decide, by decide +kernel⟩
theorem f_X11_starts_7 : g_Fld wsX11_starts RX11 7 11 0 := ⟨RX11, TX11, 27, rfl, by decide +kernel, by decide, by decide +kernel⟩
theorem p_X11_starts_110 : g_FldP wsX11_starts RX11 110 11 17 .int := ⟨RX11, TX11, 27, tyX11, rfl, by decide +kernel, by decide, by decide +kernel, tyX11_ok, nmX11, rfl, by decide +kernel⟩
theorem p_X11_starts_113 : g_FldP wsX11_starts RX11 113 11 21 .int := ⟨RX11, TX11, 27, tyX11, rfl, by decide +kernel, by decide, by decide +kernel, tyX11_ok, nmX11, rfl, by decide +kernel⟩
theorem p_X11_starts_116 : g_FldP wsX11_starts RX11 116 11 19 .int := ⟨RX11, TX11, 27, tyX11, rfl, by decide +kernel, by decide, by decide +kernel, tyX11_ok, nmX11, rfl, by decide +kernel⟩
theorem p_X11_starts_119 : g_FldP wsX11_starts RX11 119 11 9 .int := ⟨RX11, TX11, 27, tyX11, rfl, by decide +kernel, by decide, by decide +kernel, tyX11_ok, nmX11, rfl, by decide +kernel⟩
set_option maxHeartbeats 4000000 in
set_option maxRecDepth 100000 in
theorem w_m_X11_starts_96 {X : g_X (g_St)} (C : g_C X cX11_starts RX11 wsX11_starts rm_m_X11_starts 2) (q : g_qV X) (hA : g_ag L_m_X11_starts (g_n X) (g_T X)) (N : Nat) : ∀ (fu : Nat) (x1 : Int32) (σ : g_St), G X 96 [(0, .ref (g_b X + 77)), (1, .int x1)] [] σ (m_X11_starts_96 N fu x1 σ) := by
  have t77 := g_ag_at hA (c := 77) rfl tc77
  have t79 := g_ag_at hA (c := 79) rfl tc79
  have t81 := g_ag_at hA (c := 81) rfl tc81
  have t92 := g_ag_at hA (c := 92) rfl tc92
  intro fu
  induction fu with
  | zero => intro x1 σ; exact G_none
  | succ fu ih =>
    intro x1 σ
    unfold m_X11_starts_96
    refine G_iload_n C dX11_starts_96 rfl 1 rfl ?_
    refine G_aload_n C dX11_starts_97 rfl 0 rfl ?_
    refine G_getR C f_X11_starts_13 t77 rfl dX11_starts_98 ?_
    refine G_iconst C dX11_starts_101 (v := 1) (by decide +kernel) ?_
    refine G_aldk C t79 (by decide +kernel) (k := 1) rfl dX11_starts_102 ?_
    refine G_icmp_ge C dX11_starts_103 (tgt := 174) (by decide) (fun c1 => ?_) (fun c1 => ?_)
    · refine G_aload_n C dX11_starts_174 rfl 0 rfl ?_
      refine G_iconst C dX11_starts_175 (v := 0) (by decide +kernel) ?_
      refine G_putI C p_X11_starts_110 t77 rfl rfl rfl dX11_starts_176 ?_
      refine G_lts (fun σ2 => ?_)
      refine G_aload_n C dX11_starts_179 rfl 0 rfl ?_
      refine G_iconst C dX11_starts_180 (v := 0) (by decide +kernel) ?_
      refine G_putI C p_X11_starts_113 t77 rfl rfl rfl dX11_starts_181 ?_
      refine G_lts (fun σ3 => ?_)
      refine G_aload_n C dX11_starts_184 rfl 0 rfl ?_
      refine G_iconst C dX11_starts_185 (v := 0) (by decide +kernel) ?_
      refine G_putI C p_X11_starts_116 t77 rfl rfl rfl dX11_starts_186 ?_
      refine G_lts (fun σ4 => ?_)
      refine G_aload_n C dX11_starts_189 rfl 0 rfl ?_
      refine G_iconst C dX11_starts_190 (v := 0) (by decide +kernel) ?_
      refine G_putI C p_X11_starts_119 t77 rfl rfl rfl dX11_starts_191 ?_
      refine G_lts (fun σ5 => ?_)
      refine G_aload_n C dX11_starts_194 rfl 0 rfl ?_
      refine G_getR C f_X11_starts_52 t77 rfl dX11_starts_195 ?_
      refine G_iconst C dX11_starts_198 (v := 0) (by decide +kernel) ?_
      refine G_iconst C dX11_starts_199 (v := 0) (by decide +kernel) ?_
      refine G_astk C t92 (by decide +kernel) (k := 0) rfl dX11_starts_200 ?_
      refine G_lts (fun σ6 => ?_)
      refine G_aload_n C dX11_starts_201 rfl 0 rfl ?_
      refine G_getR C f_X11_starts_52 t77 rfl dX11_starts_202 ?_
      refine G_bipush C dX11_starts_205 (v := 41) (by decide +kernel) ?_
      refine G_iconst C dX11_starts_207 (v := 0) (by decide +kernel) ?_
      refine G_astk C t92 (by decide +kernel) (k := 41) rfl dX11_starts_208 ?_
      refine G_lts (fun σ7 => ?_)
      exact G_vret C q dX11_starts_209
    · refine G_aload_n C dX11_starts_106 rfl 0 rfl ?_
      refine G_getR C f_X11_starts_19 t77 rfl dX11_starts_107 ?_
      refine G_bipush C dX11_starts_110 (v := 15) (by decide +kernel) ?_
      refine G_iconst C dX11_starts_112 (v := 3) (by decide +kernel) ?_
      refine G_iload_n C dX11_starts_113 rfl 1 rfl ?_
      refine G_imul C dX11_starts_114 ?_
      refine G_iadd C dX11_starts_115 ?_
      refine G_aload_n C dX11_starts_116 rfl 0 rfl ?_
      refine G_getR C f_X11_starts_13 t77 rfl dX11_starts_117 ?_
      refine G_bipush C dX11_starts_120 (v := 21) (by decide +kernel) ?_
      refine G_iconst C dX11_starts_122 (v := 3) (by decide +kernel) ?_
      refine G_iload_n C dX11_starts_123 rfl 1 rfl ?_
      refine G_imul C dX11_starts_124 ?_
      refine G_iadd C dX11_starts_125 ?_
      refine G_chk (fun h8 => ?_)
      refine G_ald C t79 h8 dX11_starts_126 ?_
      refine G_chk (fun h9 => ?_)
      refine G_ast C t81 h9 dX11_starts_127 ?_
      refine G_lts (fun σ10 => ?_)
      refine G_aload_n C dX11_starts_128 rfl 0 rfl ?_
      refine G_getR C f_X11_starts_19 t77 rfl dX11_starts_129 ?_
      refine G_bipush C dX11_starts_132 (v := 15) (by decide +kernel) ?_
      refine G_iconst C dX11_starts_134 (v := 3) (by decide +kernel) ?_
      refine G_iload_n C dX11_starts_135 rfl 1 rfl ?_
      refine G_imul C dX11_starts_136 ?_
      refine G_iadd C dX11_starts_137 ?_
      refine G_iconst C dX11_starts_138 (v := 1) (by decide +kernel) ?_
      refine G_iadd C dX11_starts_139 ?_
      refine G_iconst C dX11_starts_140 (v := -1) (by decide +kernel) ?_
      refine G_chk (fun h11 => ?_)
      refine G_ast C t81 h11 dX11_starts_141 ?_
      refine G_lts (fun σ12 => ?_)
      refine G_aload_n C dX11_starts_142 rfl 0 rfl ?_
      refine G_getR C f_X11_starts_19 t77 rfl dX11_starts_143 ?_
      refine G_bipush C dX11_starts_146 (v := 15) (by decide +kernel) ?_
      refine G_iconst C dX11_starts_148 (v := 3) (by decide +kernel) ?_
      refine G_iload_n C dX11_starts_149 rfl 1 rfl ?_
      refine G_imul C dX11_starts_150 ?_
      refine G_iadd C dX11_starts_151 ?_
      refine G_iconst C dX11_starts_152 (v := 2) (by decide +kernel) ?_
      refine G_iadd C dX11_starts_153 ?_
      refine G_aload_n C dX11_starts_154 rfl 0 rfl ?_
      refine G_getR C f_X11_starts_13 t77 rfl dX11_starts_155 ?_
      refine G_bipush C dX11_starts_158 (v := 21) (by decide +kernel) ?_
      refine G_iconst C dX11_starts_160 (v := 3) (by decide +kernel) ?_
      refine G_iload_n C dX11_starts_161 rfl 1 rfl ?_
      refine G_imul C dX11_starts_162 ?_
      refine G_iadd C dX11_starts_163 ?_
      refine G_iconst C dX11_starts_164 (v := 2) (by decide +kernel) ?_
      refine G_iadd C dX11_starts_165 ?_
      refine G_chk (fun h13 => ?_)
      refine G_ald C t79 h13 dX11_starts_166 ?_
      refine G_chk (fun h14 => ?_)
      refine G_ast C t81 h14 dX11_starts_167 ?_
      refine G_lts (fun σ15 => ?_)
      refine G_iinc C dX11_starts_168 1 rfl (v := (x1 + (1 : Int32))) (by rfl) rfl (lv' := [(1, .int (x1 + (1 : Int32))), (0, .ref (g_b X + 77))]) rfl ?_
      refine G_ltv (fun v => [(1, .int v), (0, .ref (g_b X + 77))]) (fun v16 => ?_)
      refine G_goto C dX11_starts_171 (tgt := 96) (by decide) ?_
      exact G_sub (ih v16 σ15) [1, 0] rfl
set_option maxHeartbeats 4000000 in
set_option maxRecDepth 100000 in
theorem w_m_X11_starts_59 {X : g_X (g_St)} (C : g_C X cX11_starts RX11 wsX11_starts rm_m_X11_starts 2) (q : g_qV X) (hA : g_ag L_m_X11_starts (g_n X) (g_T X)) (N : Nat) : ∀ (fu : Nat) (x1 : Int32) (σ : g_St), G X 59 [(0, .ref (g_b X + 77)), (1, .int x1)] [] σ (m_X11_starts_59 N fu x1 σ) := by
  have t77 := g_ag_at hA (c := 77) rfl tc77
  have t79 := g_ag_at hA (c := 79) rfl tc79
  have t81 := g_ag_at hA (c := 81) rfl tc81
  intro fu
  induction fu with
  | zero => intro x1 σ; exact G_none
  | succ fu ih =>
    intro x1 σ
    unfold m_X11_starts_59
    refine G_iload_n C dX11_starts_59 rfl 1 rfl ?_
    refine G_iconst C dX11_starts_60 (v := 2) (by decide +kernel) ?_
    refine G_aload_n C dX11_starts_61 rfl 0 rfl ?_
    refine G_getR C f_X11_starts_13 t77 rfl dX11_starts_62 ?_
    refine G_iconst C dX11_starts_65 (v := 0) (by decide +kernel) ?_
    refine G_aldk C t79 (by decide +kernel) (k := 0) rfl dX11_starts_66 ?_
    refine G_imul C dX11_starts_67 ?_
    refine G_icmp_ge C dX11_starts_68 (tgt := 94) (by decide) (fun c1 => ?_) (fun c1 => ?_)
    · refine G_iconst C dX11_starts_94 (v := 0) (by decide +kernel) ?_
      refine G_istore_n C dX11_starts_95 rfl rfl (lv' := [(1, .int (0 : Int32)), (0, .ref (g_b X + 77))]) rfl ?_
      exact G_sub (w_m_X11_starts_96 C q hA N N (0 : Int32) σ) [1, 0] rfl
    · refine G_aload_n C dX11_starts_71 rfl 0 rfl ?_
      refine G_getR C f_X11_starts_19 t77 rfl dX11_starts_72 ?_
      refine G_iconst C dX11_starts_75 (v := 3) (by decide +kernel) ?_
      refine G_iload_n C dX11_starts_76 rfl 1 rfl ?_
      refine G_iadd C dX11_starts_77 ?_
      refine G_aload_n C dX11_starts_78 rfl 0 rfl ?_
      refine G_getR C f_X11_starts_13 t77 rfl dX11_starts_79 ?_
      refine G_bipush C dX11_starts_82 (v := 9) (by decide +kernel) ?_
      refine G_iload_n C dX11_starts_84 rfl 1 rfl ?_
      refine G_iadd C dX11_starts_85 ?_
      refine G_chk (fun h2 => ?_)
      refine G_ald C t79 h2 dX11_starts_86 ?_
      refine G_chk (fun h3 => ?_)
      refine G_ast C t81 h3 dX11_starts_87 ?_
      refine G_lts (fun σ4 => ?_)
      refine G_iinc C dX11_starts_88 1 rfl (v := (x1 + (1 : Int32))) (by rfl) rfl (lv' := [(1, .int (x1 + (1 : Int32))), (0, .ref (g_b X + 77))]) rfl ?_
      refine G_ltv (fun v => [(1, .int v), (0, .ref (g_b X + 77))]) (fun v5 => ?_)
      refine G_goto C dX11_starts_91 (tgt := 59) (by decide) ?_
      exact G_sub (ih v5 σ4) [1, 0] rfl
set_option maxHeartbeats 4000000 in
set_option maxRecDepth 100000 in
theorem w_m_X11_starts_28 {X : g_X (g_St)} (C : g_C X cX11_starts RX11 wsX11_starts rm_m_X11_starts 2) (q : g_qV X) (hA : g_ag L_m_X11_starts (g_n X) (g_T X)) (N : Nat) : ∀ (fu : Nat) (x1 : Int32) (σ : g_St), G X 28 [(0, .ref (g_b X + 77)), (1, .int x1)] [] σ (m_X11_starts_28 N fu x1 σ) := by
  have t77 := g_ag_at hA (c := 77) rfl tc77
  have t81 := g_ag_at hA (c := 81) rfl tc81
  intro fu
  induction fu with
  | zero => intro x1 σ; exact G_none
  | succ fu ih =>
    intro x1 σ
    unfold m_X11_starts_28
    refine G_iload_n C dX11_starts_28 rfl 1 rfl ?_
    refine G_bipush C dX11_starts_29 (v := 39) (by decide +kernel) ?_
    refine G_icmp_ge C dX11_starts_31 (tgt := 47) (by decide) (fun c1 => ?_) (fun c1 => ?_)
    · refine G_aload_n C dX11_starts_47 rfl 0 rfl ?_
      refine G_getR C f_X11_starts_19 t77 rfl dX11_starts_48 ?_
      refine G_iconst C dX11_starts_51 (v := 2) (by decide +kernel) ?_
      refine G_aload_n C dX11_starts_52 rfl 0 rfl ?_
      refine G_callI (rest := [.int (2 : Int32), .ref (g_b X + 81)]) (fun a ha => g_runV C (nargs := 0) (As := []) (rest := [.int (2 : Int32), .ref (g_b X + 81)]) gX11_starts_X11_all rfl (by decide +kernel) rfl t77 rfl rfl rfl rfl dX11_starts_53 (k_m_X11_all X.1.2.1 X.2.1 (g_n X) (g_T X) (g_ag_sub hA (by decide +kernel)) σ a ha)) (fun q2 => ?_)
      refine G_astk C t81 (by decide +kernel) (k := 2) rfl dX11_starts_56 ?_
      refine G_lts (fun σ3 => ?_)
      refine G_iconst C dX11_starts_57 (v := 0) (by decide +kernel) ?_
      refine G_istore_n C dX11_starts_58 rfl rfl (lv' := [(1, .int (0 : Int32)), (0, .ref (g_b X + 77))]) rfl ?_
      exact G_sub (w_m_X11_starts_59 C q hA N N (0 : Int32) σ3) [1, 0] rfl
    · refine G_aload_n C dX11_starts_34 rfl 0 rfl ?_
      refine G_getR C f_X11_starts_19 t77 rfl dX11_starts_35 ?_
      refine G_iload_n C dX11_starts_38 rfl 1 rfl ?_
      refine G_iconst C dX11_starts_39 (v := 0) (by decide +kernel) ?_
      refine G_chk (fun h4 => ?_)
      refine G_ast C t81 h4 dX11_starts_40 ?_
      refine G_lts (fun σ5 => ?_)
      refine G_iinc C dX11_starts_41 1 rfl (v := (x1 + (1 : Int32))) (by rfl) rfl (lv' := [(1, .int (x1 + (1 : Int32))), (0, .ref (g_b X + 77))]) rfl ?_
      refine G_ltv (fun v => [(1, .int v), (0, .ref (g_b X + 77))]) (fun v6 => ?_)
      refine G_goto C dX11_starts_44 (tgt := 28) (by decide) ?_
      exact G_sub (ih v6 σ5) [1, 0] rfl
set_option maxHeartbeats 4000000 in
set_option maxRecDepth 100000 in
theorem w_m_X11_starts_2 {X : g_X (g_St)} (C : g_C X cX11_starts RX11 wsX11_starts rm_m_X11_starts 2) (q : g_qV X) (hA : g_ag L_m_X11_starts (g_n X) (g_T X)) (N : Nat) : ∀ (fu : Nat) (x1 : Int32) (σ : g_St), G X 2 [(0, .ref (g_b X + 77)), (1, .int x1)] [] σ (m_X11_starts_2 N fu x1 σ) := by
  have t77 := g_ag_at hA (c := 77) rfl tc77
  have t78 := g_ag_at hA (c := 78) rfl tc78
  have t79 := g_ag_at hA (c := 79) rfl tc79
  intro fu
  induction fu with
  | zero => intro x1 σ; exact G_none
  | succ fu ih =>
    intro x1 σ
    unfold m_X11_starts_2
    refine G_iload_n C dX11_starts_2 rfl 1 rfl ?_
    refine G_bipush C dX11_starts_3 (v := 45) (by decide +kernel) ?_
    refine G_icmp_ge C dX11_starts_5 (tgt := 26) (by decide) (fun c1 => ?_) (fun c1 => ?_)
    · refine G_iconst C dX11_starts_26 (v := 0) (by decide +kernel) ?_
      refine G_istore_n C dX11_starts_27 rfl rfl (lv' := [(1, .int (0 : Int32)), (0, .ref (g_b X + 77))]) rfl ?_
      exact G_sub (w_m_X11_starts_28 C q hA N N (0 : Int32) σ) [1, 0] rfl
    · refine G_aload_n C dX11_starts_8 rfl 0 rfl ?_
      refine G_getR C f_X11_starts_13 t77 rfl dX11_starts_9 ?_
      refine G_iload_n C dX11_starts_12 rfl 1 rfl ?_
      refine G_aload_n C dX11_starts_13 rfl 0 rfl ?_
      refine G_getR C f_X11_starts_7 t77 rfl dX11_starts_14 ?_
      refine G_iload_n C dX11_starts_17 rfl 1 rfl ?_
      refine G_chk (fun h2 => ?_)
      refine G_ald C t78 h2 dX11_starts_18 ?_
      refine G_chk (fun h3 => ?_)
      refine G_ast C t79 h3 dX11_starts_19 ?_
      refine G_lts (fun σ4 => ?_)
      refine G_iinc C dX11_starts_20 1 rfl (v := (x1 + (1 : Int32))) (by rfl) rfl (lv' := [(1, .int (x1 + (1 : Int32))), (0, .ref (g_b X + 77))]) rfl ?_
      refine G_ltv (fun v => [(1, .int v), (0, .ref (g_b X + 77))]) (fun v5 => ?_)
      refine G_goto C dX11_starts_23 (tgt := 2) (by decide) ?_
      exact G_sub (ih v5 σ4) [1, 0] rfl
set_option maxHeartbeats 4000000 in
set_option maxRecDepth 100000 in
theorem w_m_X11_starts_0 {X : g_X (g_St)} (C : g_C X cX11_starts RX11 wsX11_starts rm_m_X11_starts 2) (q : g_qV X) (hA : g_ag L_m_X11_starts (g_n X) (g_T X)) (N : Nat) (σ : g_St) : G X 0 [(0, .ref (g_b X + 77))] [] σ (m_X11_starts N σ) := by
  unfold m_X11_starts
  refine G_iconst C dX11_starts_0 (v := 0) (by decide +kernel) ?_
  refine G_istore_n C dX11_starts_1 rfl rfl (lv' := [(1, .int (0 : Int32)), (0, .ref (g_b X + 77))]) rfl ?_
  exact G_sub (w_m_X11_starts_2 C q hA N N (0 : Int32) σ) [1, 0] rfl
theorem k_m_X11_starts (l : Launch) (E : g_E) (n : Nat) (T : Nat → g_Sh) (hA : g_ag L_m_X11_starts n T) (N : Nat) (σ : g_St) (a : g_St) (h : m_X11_starts N σ = some a) : Met l yX11_starts wsX11_starts rm_m_X11_starts (g_Pc E n T [.ref (E.2.1 + 77)] σ) (g_Qv E n T a) 0 0 (g_A E) :=
  g_metV (by decide +kernel) rfl rfl (Nat.le_of_ble_eq_true rfl) (fun M Qf C q => by rw [← h]; exact w_m_X11_starts_0 C q hA N σ)
