def L_m_X2_partSets : List Nat := [13, 14, 59, 60, 61]
abbrev rm_m_X2_partSets : Room := { frames := 3, cells := 0, slots := 0, locals := 68 }
theorem f_X2_partSets_15 : g_Fld wsX2_partSets RX2 15 2 1 := ⟨RX2, TX2, 6, rfl, by decide +kernel, by decide, by decide +kernel⟩
theorem f_X2_partSets_22 : g_Fld wsX2_partSets RX2 22 2 3 := ⟨RX2, TX2, 6, rfl, by decide +kernel, by decide, by decide +kernel⟩
theorem f_X2_partSets_26 : g_Fld wsX2_partSets RX2 26 2 4 := ⟨RX2, TX2, 6, rfl, by decide +kernel, by decide, by decide +kernel⟩
theorem f_X2_partSets_29 : g_Fld wsX2_partSets RX2 29 2 5 := ⟨RX2, TX2, 6, rfl, by decide +kernel, by decide, by decide +kernel⟩
theorem f_X2_partSets_9 : g_Fld wsX2_partSets RX2 9 2 0 := ⟨RX2, TX2, 6, rfl, by decide +kernel, by decide, by decide +kernel⟩
theorem p_X2_partSets_29 : g_FldP wsX2_partSets RX2 29 2 5 .int := ⟨RX2, TX2, 6, tyX2, rfl, by decide +kernel, by decide, by decide +kernel, tyX2_ok, nmX2, rfl, by decide +kernel⟩
theorem c_X2_partSets_68 : Cond.constantLong RX2 68 (1000000000) ∈ wsX2_partSets := by decide +kernel
set_option maxHeartbeats 4000000 in
set_option maxRecDepth 100000 in
theorem w_m_X2_partSets_127 {X : g_X (g_St)} (C : g_C X cX2_partSets RX2 wsX2_partSets rm_m_X2_partSets 4) (q : g_qV X) (hA : g_ag L_m_X2_partSets (g_n X) (g_T X)) (k63 : Int32 → Int32 → g_St → Option (g_St)) (hk63 : ∀ (x2 : Int32) (x3 : Int32) (σ : g_St), G X 63 [(0, .ref (g_b X + 59)), (1, .ref (g_b X + 13)), (2, .int x2), (3, .int x3)] [] σ (k63 x2 x3 σ)) (N : Nat) (x2 : Int32) (x3 : Int32) (σ : g_St) : G X 127 [(0, .ref (g_b X + 59)), (1, .ref (g_b X + 13)), (2, .int x2), (3, .int x3)] [] σ (m_X2_partSets_127 k63 N x2 x3 σ) := by
  unfold m_X2_partSets_127
  refine G_iinc C dX2_partSets_127 3 rfl (v := (x3 + (-1 : Int32))) (by rfl) rfl (lv' := [(3, .int (x3 + (-1 : Int32))), (0, .ref (g_b X + 59)), (1, .ref (g_b X + 13)), (2, .int x2)]) rfl ?_
  refine G_ltv (fun v => [(3, .int v), (0, .ref (g_b X + 59)), (1, .ref (g_b X + 13)), (2, .int x2)]) (fun v1 => ?_)
  refine G_goto C dX2_partSets_130 (tgt := 63) (by decide) ?_
  exact G_sub (hk63 x2 v1 σ) [1, 2, 3, 0] rfl
set_option maxHeartbeats 4000000 in
set_option maxRecDepth 100000 in
theorem w_m_X2_partSets_63 {X : g_X (g_St)} (C : g_C X cX2_partSets RX2 wsX2_partSets rm_m_X2_partSets 4) (q : g_qV X) (hA : g_ag L_m_X2_partSets (g_n X) (g_T X)) (N : Nat) : ∀ (fu : Nat) (x2 : Int32) (x3 : Int32) (σ : g_St), G X 63 [(0, .ref (g_b X + 59)), (1, .ref (g_b X + 13)), (2, .int x2), (3, .int x3)] [] σ (m_X2_partSets_63 N fu x2 x3 σ) := by
  have t59 := g_ag_at hA (c := 59) rfl tc59
  have t60 := g_ag_at hA (c := 60) rfl tc60
  have t61 := g_ag_at hA (c := 61) rfl tc61
  intro fu
  induction fu with
  | zero => intro x2 x3 σ; exact G_none
  | succ fu ih =>
    intro x2 x3 σ
    unfold m_X2_partSets_63
    refine G_iload_n C dX2_partSets_63 rfl 3 rfl ?_
    refine G_if_lt C dX2_partSets_64 (tgt := 133) (by decide) (fun c1 => ?_) (fun c1 => ?_)
    · exact G_vret C q dX2_partSets_133
    · refine G_aload_n C dX2_partSets_67 rfl 0 rfl ?_
      refine G_getR C f_X2_partSets_9 t59 rfl dX2_partSets_68 ?_
      refine G_iload_n C dX2_partSets_71 rfl 3 rfl ?_
      refine G_chk (fun h2 => ?_)
      refine G_lald C t60 h2 dX2_partSets_72 ?_
      refine G_lconst C dX2_partSets_73 (v := 0) (by decide +kernel) ?_
      refine G_lcmp C dX2_partSets_74 ?_
      refine G_if_ne C dX2_partSets_75 (tgt := 81) (by decide) (fun c3 => ?_) (fun c3 => ?_)
      · refine G_goto C dX2_partSets_78 (tgt := 127) (by decide) ?_
        exact w_m_X2_partSets_127 C q hA (m_X2_partSets_63 N fu) ih N x2 x3 σ
      · refine G_iload_n C dX2_partSets_81 rfl 3 rfl ?_
        refine G_callI (rest := []) (fun a ha => g_runS C (nargs := 1) (As := [.int x3]) (rest := []) gX2_partSets_J6_bitCount_0f7a4 rfl (by decide +kernel) rfl rfl rfl dX2_partSets_82 (k_m_J6_bitCount X.1.2.1 X.2.1 (g_n X) (g_T X) (g_ag_sub hA (by decide +kernel)) x3 σ a ha)) (fun q4 => ?_)
        refine G_iload_n C dX2_partSets_85 rfl 2 rfl ?_
        refine G_icmp_le C dX2_partSets_86 (tgt := 98) (by decide) (fun c5 => ?_) (fun c5 => ?_)
        · refine G_aload_n C dX2_partSets_98 rfl 0 rfl ?_
          refine G_getI C f_X2_partSets_29 t59 rfl dX2_partSets_99 ?_
          refine G_bipush C dX2_partSets_102 (v := 70) (by decide +kernel) ?_
          refine G_icmp_ge C dX2_partSets_104 (tgt := 127) (by decide) (fun c6 => ?_) (fun c6 => ?_)
          · exact w_m_X2_partSets_127 C q hA (m_X2_partSets_63 N fu) ih N x2 x3 q4.2
          · refine G_aload_n C dX2_partSets_107 rfl 0 rfl ?_
            refine G_getR C f_X2_partSets_15 t59 rfl dX2_partSets_108 ?_
            refine G_aload_n C dX2_partSets_111 rfl 0 rfl ?_
            refine G_getI C f_X2_partSets_29 t59 rfl dX2_partSets_112 ?_
            refine G_iload_n C dX2_partSets_115 rfl 3 rfl ?_
            refine G_chk (fun h7 => ?_)
            refine G_ast C t61 h7 dX2_partSets_116 ?_
            refine G_lts (fun σ8 => ?_)
            refine G_aload_n C dX2_partSets_117 rfl 0 rfl ?_
            refine G_dup C dX2_partSets_118 rfl ?_
            refine G_getI C f_X2_partSets_29 t59 rfl dX2_partSets_119 ?_
            refine G_iconst C dX2_partSets_122 (v := 1) (by decide +kernel) ?_
            refine G_iadd C dX2_partSets_123 ?_
            refine G_putI C p_X2_partSets_29 t59 rfl rfl rfl dX2_partSets_124 ?_
            refine G_lts (fun σ9 => ?_)
            exact w_m_X2_partSets_127 C q hA (m_X2_partSets_63 N fu) ih N x2 x3 σ9
        · refine G_aload_n C dX2_partSets_89 rfl 0 rfl ?_
          refine G_aload_n C dX2_partSets_90 rfl 1 rfl ?_
          refine G_iload_n C dX2_partSets_91 rfl 3 rfl ?_
          refine G_callV (rest := []) (fun a ha => g_runV C (nargs := 2) (As := [.ref (g_b X + 13), .int x3]) (rest := []) gX2_partSets_X2_handOn rfl (by decide +kernel) rfl t59 rfl rfl rfl rfl dX2_partSets_92 (k_m_X2_handOn X.1.2.1 X.2.1 (g_n X) (g_T X) (g_ag_sub hA (by decide +kernel)) N x3 q4.2 a ha)) (fun σ10 => ?_)
          refine G_goto C dX2_partSets_95 (tgt := 127) (by decide) ?_
          exact w_m_X2_partSets_127 C q hA (m_X2_partSets_63 N fu) ih N x2 x3 σ10
set_option maxHeartbeats 4000000 in
set_option maxRecDepth 100000 in
theorem w_m_X2_partSets_0 {X : g_X (g_St)} (C : g_C X cX2_partSets RX2 wsX2_partSets rm_m_X2_partSets 4) (q : g_qV X) (hA : g_ag L_m_X2_partSets (g_n X) (g_T X)) (N : Nat) (σ : g_St) : G X 0 [(0, .ref (g_b X + 59)), (1, .ref (g_b X + 13))] [] σ (m_X2_partSets N σ) := by
  have t59 := g_ag_at hA (c := 59) rfl tc59
  have t60 := g_ag_at hA (c := 60) rfl tc60
  unfold m_X2_partSets
  refine G_aload_n C dX2_partSets_0 rfl 0 rfl ?_
  refine G_getR C f_X2_partSets_9 t59 rfl dX2_partSets_1 ?_
  refine G_lconst C dX2_partSets_4 (v := 0) (by decide +kernel) ?_
  refine G_callV (rest := []) (fun a ha => g_runS C (nargs := 2) (As := [.ref (g_b X + 60), .long (0 : Int64)]) (rest := []) gX2_partSets_J7_fill_d0a16 rfl (by decide +kernel) rfl rfl rfl dX2_partSets_5 (k_m_J7_fillL_60 X.1.2.1 X.2.1 (g_n X) (g_T X) (g_ag_sub hA (by decide +kernel)) N (0 : Int64) σ a ha)) (fun σ1 => ?_)
  refine G_aload_n C dX2_partSets_8 rfl 0 rfl ?_
  refine G_iconst C dX2_partSets_9 (v := 0) (by decide +kernel) ?_
  refine G_putI C p_X2_partSets_29 t59 rfl rfl rfl dX2_partSets_10 ?_
  refine G_lts (fun σ2 => ?_)
  refine G_aload_n C dX2_partSets_13 rfl 0 rfl ?_
  refine G_getI C f_X2_partSets_22 t59 rfl dX2_partSets_14 ?_
  refine G_if_lt C dX2_partSets_17 (tgt := 32) (by decide) (fun c3 => ?_) (fun c3 => ?_)
  · exact G_vret C q dX2_partSets_32
  · refine G_aload_n C dX2_partSets_20 rfl 0 rfl ?_
    refine G_getI C f_X2_partSets_22 t59 rfl dX2_partSets_21 ?_
    refine G_aload_n C dX2_partSets_24 rfl 0 rfl ?_
    refine G_getR C f_X2_partSets_9 t59 rfl dX2_partSets_25 ?_
    refine G_alenL C t60 (v := 256) (by decide +kernel) dX2_partSets_28 ?_
    refine G_icmp_lt C dX2_partSets_29 (tgt := 33) (by decide) (fun c4 => ?_) (fun c4 => ?_)
    · refine G_aload_n C dX2_partSets_33 rfl 0 rfl ?_
      refine G_getR C f_X2_partSets_9 t59 rfl dX2_partSets_34 ?_
      refine G_aload_n C dX2_partSets_37 rfl 0 rfl ?_
      refine G_getI C f_X2_partSets_22 t59 rfl dX2_partSets_38 ?_
      refine G_ldc2 C dX2_partSets_41 c_X2_partSets_68 ?_
      refine G_chk (fun h5 => ?_)
      refine G_lst C t60 h5 dX2_partSets_44 ?_
      refine G_lts (fun σ6 => ?_)
      refine G_aload_n C dX2_partSets_45 rfl 0 rfl ?_
      refine G_getI C f_X2_partSets_22 t59 rfl dX2_partSets_46 ?_
      refine G_callI (rest := []) (fun a ha => g_runS C (nargs := 1) (As := [.int (σ6.1 59 3)]) (rest := []) gX2_partSets_J6_bitCount_0f7a4 rfl (by decide +kernel) rfl rfl rfl dX2_partSets_49 (k_m_J6_bitCount X.1.2.1 X.2.1 (g_n X) (g_T X) (g_ag_sub hA (by decide +kernel)) (σ6.1 59 3) σ6 a ha)) (fun q7 => ?_)
      refine G_aload_n C dX2_partSets_52 rfl 0 rfl ?_
      refine G_getI C f_X2_partSets_26 t59 rfl dX2_partSets_53 ?_
      refine G_isub C dX2_partSets_56 ?_
      refine G_lti (fun v8 => ?_)
      refine G_istore_n C dX2_partSets_57 rfl rfl (lv' := [(2, .int v8), (0, .ref (g_b X + 59)), (1, .ref (g_b X + 13))]) rfl ?_
      refine G_aload_n C dX2_partSets_58 rfl 1 rfl ?_
      refine G_getI C f_X2_partSets_22 t59 rfl dX2_partSets_59 ?_
      refine G_lti (fun v9 => ?_)
      refine G_istore_n C dX2_partSets_62 rfl rfl (lv' := [(3, .int v9), (2, .int v8), (0, .ref (g_b X + 59)), (1, .ref (g_b X + 13))]) rfl ?_
      exact G_sub (w_m_X2_partSets_63 C q hA N N v8 v9 q7.2) [2, 3, 1, 0] rfl
    · exact G_vret C q dX2_partSets_32
theorem k_m_X2_partSets (l : Launch) (E : g_E) (n : Nat) (T : Nat → g_Sh) (hA : g_ag L_m_X2_partSets n T) (N : Nat) (σ : g_St) (a : g_St) (h : m_X2_partSets N σ = some a) : Met l yX2_partSets wsX2_partSets rm_m_X2_partSets (g_Pc E n T [.ref (E.2.1 + 59), .ref (E.2.1 + 13)] σ) (g_Qv E n T a) 0 0 (g_A E) :=
  g_metV (by decide +kernel) rfl rfl (Nat.le_of_ble_eq_true rfl) (fun M Qf C q => by rw [← h]; exact w_m_X2_partSets_0 C q hA N σ)
def L_m_X2_begin : List Nat := [13, 14, 59, 60, 61]
abbrev rm_m_X2_begin : Room := { frames := 4, cells := 0, slots := 0, locals := 91 }
theorem f_X2_begin_32 : g_Fld wsX2_begin RX2 32 7 5 := ⟨RX7, TX7, 6, rfl, by decide +kernel, by decide, by decide +kernel⟩
theorem p_X2_begin_22 : g_FldP wsX2_begin RX2 22 2 3 .int := ⟨RX2, TX2, 6, tyX2, rfl, by decide +kernel, by decide, by decide +kernel, tyX2_ok, nmX2, rfl, by decide +kernel⟩
theorem p_X2_begin_26 : g_FldP wsX2_begin RX2 26 2 4 .int := ⟨RX2, TX2, 6, tyX2, rfl, by decide +kernel, by decide, by decide +kernel, tyX2_ok, nmX2, rfl, by decide +kernel⟩
theorem w_X2_begin_44 : g_mw wsX2_begin RX2 44 Lib.Math.min.name Lib.Math.min.code 2 := ⟨by decide +kernel, by decide +kernel, by decide +kernel, by decide +kernel⟩
set_option maxHeartbeats 4000000 in
set_option maxRecDepth 100000 in
theorem w_m_X2_begin_25 {X : g_X (g_St)} (C : g_C X cX2_begin RX2 wsX2_begin rm_m_X2_begin 4) (q : g_qV X) (hA : g_ag L_m_X2_begin (g_n X) (g_T X)) (N : Nat) (s1 : Int32) (σ : g_St) : G X 25 [(0, .ref (g_b X + 59)), (1, .ref (g_b X + 13))] [.int s1, .ref (g_b X + 59)] σ (m_X2_begin_25 N s1 σ) := by
  have t13 := g_ag_at hA (c := 13) rfl tc13
  have t59 := g_ag_at hA (c := 59) rfl tc59
  unfold m_X2_begin_25
  refine G_putI C p_X2_begin_26 t59 rfl rfl rfl dX2_begin_25 ?_
  refine G_lts (fun σ1 => ?_)
  refine G_aload_n C dX2_begin_28 rfl 1 rfl ?_
  refine G_getI C f_X2_begin_32 t13 rfl dX2_begin_29 ?_
  refine G_if_ne C dX2_begin_32 (tgt := 40) (by decide) (fun c2 => ?_) (fun c2 => ?_)
  · refine G_aload_n C dX2_begin_35 rfl 0 rfl ?_
    refine G_aload_n C dX2_begin_36 rfl 1 rfl ?_
    refine G_callV (rest := []) (fun a ha => g_runV C (nargs := 1) (As := [.ref (g_b X + 13)]) (rest := []) gX2_begin_X2_partSets rfl (by decide +kernel) rfl t59 rfl rfl rfl rfl dX2_begin_37 (k_m_X2_partSets X.1.2.1 X.2.1 (g_n X) (g_T X) (g_ag_sub hA (by decide +kernel)) N σ1 a ha)) (fun σ3 => ?_)
    exact G_vret C q dX2_begin_40
  · exact G_vret C q dX2_begin_40
set_option maxHeartbeats 4000000 in
set_option maxRecDepth 100000 in
theorem w_m_X2_begin_0 {X : g_X (g_St)} (C : g_C X cX2_begin RX2 wsX2_begin rm_m_X2_begin 4) (q : g_qV X) (hA : g_ag L_m_X2_begin (g_n X) (g_T X)) (N : Nat) (x2 : Int32) (x3 : Int32) (σ : g_St) : G X 0 [(0, .ref (g_b X + 59)), (1, .ref (g_b X + 13)), (2, .int x2), (3, .int x3)] [] σ (m_X2_begin N x2 x3 σ) := by
  have t13 := g_ag_at hA (c := 13) rfl tc13
  have t59 := g_ag_at hA (c := 59) rfl tc59
  unfold m_X2_begin
  refine G_aload_n C dX2_begin_0 rfl 0 rfl ?_
  refine G_iload_n C dX2_begin_1 rfl 2 rfl ?_
  refine G_putI C p_X2_begin_22 t59 rfl rfl rfl dX2_begin_2 ?_
  refine G_lts (fun σ1 => ?_)
  refine G_aload_n C dX2_begin_5 rfl 0 rfl ?_
  refine G_aload_n C dX2_begin_6 rfl 1 rfl ?_
  refine G_getI C f_X2_begin_32 t13 rfl dX2_begin_7 ?_
  refine G_if_eq C dX2_begin_10 (tgt := 17) (by decide) (fun c2 => ?_) (fun c2 => ?_)
  · refine G_iload_n C dX2_begin_17 rfl 3 rfl ?_
    refine G_iload_n C dX2_begin_18 rfl 2 rfl ?_
    refine G_callI (rest := [.int x3, .ref (g_b X + 59)]) (fun a ha => g_runS C (nargs := 1) (As := [.int x2]) (rest := [.int x3, .ref (g_b X + 59)]) gX2_begin_J6_bitCount_0f7a4 rfl (by decide +kernel) rfl rfl rfl dX2_begin_19 (k_m_J6_bitCount X.1.2.1 X.2.1 (g_n X) (g_T X) (g_ag_sub hA (by decide +kernel)) x2 σ1 a ha)) (fun q3 => ?_)
    refine G_mmin C w_X2_begin_44 rfl dX2_begin_22 ?_
    exact G_sub (w_m_X2_begin_25 C q hA N (if q3.1 < x3 then q3.1 else x3) q3.2) [0, 1] rfl
  · refine G_iload_n C dX2_begin_13 rfl 3 rfl ?_
    refine G_goto C dX2_begin_14 (tgt := 25) (by decide) ?_
    exact G_sub (w_m_X2_begin_25 C q hA N x3 σ1) [0, 1] rfl
theorem k_m_X2_begin (l : Launch) (E : g_E) (n : Nat) (T : Nat → g_Sh) (hA : g_ag L_m_X2_begin n T) (N : Nat) (x2 : Int32) (x3 : Int32) (σ : g_St) (a : g_St) (h : m_X2_begin N x2 x3 σ = some a) : Met l yX2_begin wsX2_begin rm_m_X2_begin (g_Pc E n T [.ref (E.2.1 + 59), .ref (E.2.1 + 13), .int x2, .int x3] σ) (g_Qv E n T a) 0 0 (g_A E) :=
  g_metV (by decide +kernel) rfl rfl (Nat.le_of_ble_eq_true rfl) (fun M Qf C q => by rw [← h]; exact w_m_X2_begin_0 C q hA N x2 x3 σ)
def L_m_J7_fillL_62 : List Nat := [62]
abbrev rm_m_J7_fillL_62 : Room := { frames := 0, cells := 0, slots := 0, locals := 0 }
set_option maxHeartbeats 4000000 in
set_option maxRecDepth 100000 in
theorem w_m_J7_fillL_62_6 {X : g_X (g_St)} (C : g_C X cJ7_fill_d0a16 RJ7 wsJ7_fill_d0a16 rm_m_J7_fillL_62 5) (q : g_qV X) (hA : g_ag L_m_J7_fillL_62 (g_n X) (g_T X)) (N : Nat) : ∀ (fu : Nat) (x1 : Int64) (x3 : Int32) (x4 : Int32) (σ : g_St), G X 6 [(0, .ref (g_b X + 62)), (1, .long x1), (3, .int x3), (4, .int x4)] [] σ (m_J7_fillL_62_6 N fu x1 x3 x4 σ) := by
  have t62 := g_ag_at hA (c := 62) rfl tc62
  intro fu
  induction fu with
  | zero => intro x1 x3 x4 σ; exact G_none
  | succ fu ih =>
    intro x1 x3 x4 σ
    unfold m_J7_fillL_62_6
    refine G_iload_n C dJ7_fill_d0a16_6 rfl 2 rfl ?_
    refine G_iload C dJ7_fill_d0a16_7 3 rfl ?_
    refine G_icmp_ge C dJ7_fill_d0a16_9 (tgt := 22) (by decide) (fun c1 => ?_) (fun c1 => ?_)
    · exact G_vret C q dJ7_fill_d0a16_22
    · refine G_aload_n C dJ7_fill_d0a16_12 rfl 0 rfl ?_
      refine G_iload_n C dJ7_fill_d0a16_13 rfl 2 rfl ?_
      refine G_lload_n C dJ7_fill_d0a16_14 rfl 1 rfl ?_
      refine G_chk (fun h2 => ?_)
      refine G_lst C t62 h2 dJ7_fill_d0a16_15 ?_
      refine G_lts (fun σ3 => ?_)
      refine G_iinc C dJ7_fill_d0a16_16 2 rfl (v := (x3 + (1 : Int32))) (by rfl) rfl (lv' := [(3, .int (x3 + (1 : Int32))), (0, .ref (g_b X + 62)), (1, .long x1), (4, .int x4)]) rfl ?_
      refine G_ltv (fun v => [(3, .int v), (0, .ref (g_b X + 62)), (1, .long x1), (4, .int x4)]) (fun v4 => ?_)
      refine G_goto C dJ7_fill_d0a16_19 (tgt := 6) (by decide) ?_
      exact G_sub (ih x1 v4 x4 σ3) [1, 2, 0, 3] rfl
set_option maxHeartbeats 4000000 in
set_option maxRecDepth 100000 in
theorem w_m_J7_fillL_62_0 {X : g_X (g_St)} (C : g_C X cJ7_fill_d0a16 RJ7 wsJ7_fill_d0a16 rm_m_J7_fillL_62 5) (q : g_qV X) (hA : g_ag L_m_J7_fillL_62 (g_n X) (g_T X)) (N : Nat) (x1 : Int64) (σ : g_St) : G X 0 [(0, .ref (g_b X + 62)), (1, .long x1)] [] σ (m_J7_fillL_62 N x1 σ) := by
  have t62 := g_ag_at hA (c := 62) rfl tc62
  unfold m_J7_fillL_62
  refine G_iconst C dJ7_fill_d0a16_0 (v := 0) (by decide +kernel) ?_
  refine G_istore_n C dJ7_fill_d0a16_1 rfl rfl (lv' := [(3, .int (0 : Int32)), (0, .ref (g_b X + 62)), (1, .long x1)]) rfl ?_
  refine G_aload_n C dJ7_fill_d0a16_2 rfl 1 rfl ?_
  refine G_alenL C t62 (v := 9) (by decide +kernel) dJ7_fill_d0a16_3 ?_
  refine G_istore C dJ7_fill_d0a16_4 rfl (lv' := [(4, .int (9 : Int32)), (3, .int (0 : Int32)), (0, .ref (g_b X + 62)), (1, .long x1)]) rfl ?_
  exact G_sub (w_m_J7_fillL_62_6 C q hA N N x1 (0 : Int32) (9 : Int32) σ) [2, 3, 1, 0] rfl
theorem k_m_J7_fillL_62 (l : Launch) (E : g_E) (n : Nat) (T : Nat → g_Sh) (hA : g_ag L_m_J7_fillL_62 n T) (N : Nat) (x1 : Int64) (σ : g_St) (a : g_St) (h : m_J7_fillL_62 N x1 σ = some a) : Met l yJ7_fill_d0a16 wsJ7_fill_d0a16 rm_m_J7_fillL_62 (g_Pc E n T [.ref (E.2.1 + 62), .long x1] σ) (g_Qv E n T a) 0 0 (g_A E) :=
  g_metV (by decide +kernel) rfl rfl (Nat.le_of_ble_eq_true rfl) (fun M Qf C q => by rw [← h]; exact w_m_J7_fillL_62_0 C q hA N x1 σ)
def L_m_X2_atLeastWith : List Nat := [13, 14, 59, 62]
abbrev rm_m_X2_atLeastWith : Room := { frames := 2, cells := 0, slots := 0, locals := 44 }
theorem f_X2_atLeastWith_19 : g_Fld wsX2_atLeastWith RX2 19 2 2 := ⟨RX2, TX2, 6, rfl, by decide +kernel, by decide, by decide +kernel⟩
theorem f_X2_atLeastWith_22 : g_Fld wsX2_atLeastWith RX2 22 2 3 := ⟨RX2, TX2, 6, rfl, by decide +kernel, by decide, by decide +kernel⟩
theorem f_X2_atLeastWith_26 : g_Fld wsX2_atLeastWith RX2 26 2 4 := ⟨RX2, TX2, 6, rfl, by decide +kernel, by decide, by decide +kernel⟩
theorem c_X2_atLeastWith_68 : Cond.constantLong RX2 68 (1000000000) ∈ wsX2_atLeastWith := by decide +kernel
theorem w_X2_atLeastWith_87 : g_mw wsX2_atLeastWith RX2 87 Lib.Math.max.name Lib.Math.max.code 2 := ⟨by decide +kernel, by decide +kernel, by decide +kernel, by decide +kernel⟩
set_option maxHeartbeats 4000000 in
set_option maxRecDepth 100000 in
theorem w_m_X2_atLeastWith_132 {X : g_X (Int64 × g_St)} (C : g_C X cX2_atLeastWith RX2 wsX2_atLeastWith rm_m_X2_atLeastWith 10) (q : g_qL X) (hA : g_ag L_m_X2_atLeastWith (g_n X) (g_T X)) (N : Nat) : ∀ (fu : Nat) (x6 : Int64) (x8 : Int32) (σ : g_St), G X 132 [(0, .ref (g_b X + 59)), (6, .long x6), (8, .int x8)] [] σ (m_X2_atLeastWith_132 N fu x6 x8 σ) := by
  have t59 := g_ag_at hA (c := 59) rfl tc59
  have t62 := g_ag_at hA (c := 62) rfl tc62
  intro fu
  induction fu with
  | zero => intro x6 x8 σ; exact G_none
  | succ fu ih =>
    intro x6 x8 σ
    unfold m_X2_atLeastWith_132
    refine G_iload C dX2_atLeastWith_132 2 rfl ?_
    refine G_bipush C dX2_atLeastWith_134 (v := 8) (by decide +kernel) ?_
    refine G_icmp_gt C dX2_atLeastWith_136 (tgt := 157) (by decide) (fun c1 => ?_) (fun c1 => ?_)
    · refine G_lload C dX2_atLeastWith_157 1 rfl ?_
      exact G_lret C q dX2_atLeastWith_159
    · refine G_lload C dX2_atLeastWith_139 1 rfl ?_
      refine G_aload_n C dX2_atLeastWith_141 rfl 0 rfl ?_
      refine G_getR C f_X2_atLeastWith_19 t59 rfl dX2_atLeastWith_142 ?_
      refine G_iload C dX2_atLeastWith_145 2 rfl ?_
      refine G_chk (fun h2 => ?_)
      refine G_lald C t62 h2 dX2_atLeastWith_147 ?_
      refine G_ladd C dX2_atLeastWith_148 ?_
      refine G_ltl (fun v3 => ?_)
      refine G_lstore C dX2_atLeastWith_149 rfl (lv' := [(6, .long v3), (0, .ref (g_b X + 59)), (8, .int x8)]) rfl ?_
      refine G_iinc C dX2_atLeastWith_151 2 rfl (v := (x8 + (1 : Int32))) (by rfl) rfl (lv' := [(8, .int (x8 + (1 : Int32))), (6, .long v3), (0, .ref (g_b X + 59))]) rfl ?_
      refine G_ltv (fun v => [(8, .int v), (6, .long v3), (0, .ref (g_b X + 59))]) (fun v4 => ?_)
      refine G_goto C dX2_atLeastWith_154 (tgt := 132) (by decide) ?_
      exact G_sub (ih v3 v4 σ) [2, 1, 0] rfl
set_option maxHeartbeats 4000000 in
set_option maxRecDepth 100000 in
theorem w_m_X2_atLeastWith_122 {X : g_X (Int64 × g_St)} (C : g_C X cX2_atLeastWith RX2 wsX2_atLeastWith rm_m_X2_atLeastWith 10) (q : g_qL X) (hA : g_ag L_m_X2_atLeastWith (g_n X) (g_T X)) (N : Nat) (x3 : Int32) (σ : g_St) : G X 122 [(0, .ref (g_b X + 59)), (3, .int x3)] [] σ (m_X2_atLeastWith_122 N x3 σ) := by
  unfold m_X2_atLeastWith_122
  refine G_lconst C dX2_atLeastWith_122 (v := 0) (by decide +kernel) ?_
  refine G_lstore C dX2_atLeastWith_123 rfl (lv' := [(6, .long (0 : Int64)), (0, .ref (g_b X + 59)), (3, .int x3)]) rfl ?_
  refine G_iconst C dX2_atLeastWith_125 (v := 0) (by decide +kernel) ?_
  refine G_iload_n C dX2_atLeastWith_126 rfl 2 rfl ?_
  refine G_mmax C w_X2_atLeastWith_87 rfl dX2_atLeastWith_127 ?_
  refine G_lti (fun v1 => ?_)
  refine G_istore C dX2_atLeastWith_130 rfl (lv' := [(8, .int v1), (6, .long (0 : Int64)), (0, .ref (g_b X + 59)), (3, .int x3)]) rfl ?_
  exact G_sub (w_m_X2_atLeastWith_132 C q hA N N (0 : Int64) v1 σ) [2, 1, 0] rfl
set_option maxHeartbeats 4000000 in
set_option maxRecDepth 100000 in
theorem w_m_X2_atLeastWith_62 {X : g_X (Int64 × g_St)} (C : g_C X cX2_atLeastWith RX2 wsX2_atLeastWith rm_m_X2_atLeastWith 10) (q : g_qL X) (hA : g_ag L_m_X2_atLeastWith (g_n X) (g_T X)) (k37 : Int32 → Int32 → Int32 → Int32 → g_St → Option (Int64 × g_St)) (hk37 : ∀ (x3 : Int32) (x4 : Int32) (x5 : Int32) (x6 : Int32) (σ : g_St), G X 37 [(0, .ref (g_b X + 59)), (3, .int x3), (4, .int x4), (5, .int x5), (6, .int x6)] [] σ (k37 x3 x4 x5 x6 σ)) (N : Nat) : ∀ (fu : Nat) (x3 : Int32) (x4 : Int32) (x5 : Int32) (x6 : Int32) (x7 : Int32) (σ : g_St), G X 62 [(0, .ref (g_b X + 59)), (3, .int x3), (4, .int x4), (5, .int x5), (6, .int x6), (7, .int x7)] [] σ (m_X2_atLeastWith_62 k37 N fu x3 x4 x5 x6 x7 σ) := by
  have t59 := g_ag_at hA (c := 59) rfl tc59
  have t62 := g_ag_at hA (c := 62) rfl tc62
  intro fu
  induction fu with
  | zero => intro x3 x4 x5 x6 x7 σ; exact G_none
  | succ fu ih =>
    intro x3 x4 x5 x6 x7 σ
    unfold m_X2_atLeastWith_62
    refine G_iload C dX2_atLeastWith_62 5 rfl ?_
    refine G_if_lt C dX2_atLeastWith_64 (tgt := 116) (by decide) (fun c1 => ?_) (fun c1 => ?_)
    · refine G_iinc C dX2_atLeastWith_116 4 rfl (v := (x6 + (1 : Int32))) (by rfl) rfl (lv' := [(6, .int (x6 + (1 : Int32))), (0, .ref (g_b X + 59)), (3, .int x3), (4, .int x4), (5, .int x5), (7, .int x7)]) rfl ?_
      refine G_ltv (fun v => [(6, .int v), (0, .ref (g_b X + 59)), (3, .int x3), (4, .int x4), (5, .int x5), (7, .int x7)]) (fun v2 => ?_)
      refine G_goto C dX2_atLeastWith_119 (tgt := 37) (by decide) ?_
      exact G_sub (hk37 x3 x4 x5 v2 σ) [1, 2, 3, 4, 0] rfl
    · refine G_aload_n C dX2_atLeastWith_67 rfl 0 rfl ?_
      refine G_getR C f_X2_atLeastWith_19 t59 rfl dX2_atLeastWith_68 ?_
      refine G_iload C dX2_atLeastWith_71 5 rfl ?_
      refine G_chk (fun h3 => ?_)
      refine G_lald C t62 h3 dX2_atLeastWith_73 ?_
      refine G_iload C dX2_atLeastWith_74 3 rfl ?_
      refine G_i2l C dX2_atLeastWith_76 ?_
      refine G_lmul C dX2_atLeastWith_77 ?_
      refine G_iload C dX2_atLeastWith_78 2 rfl ?_
      refine G_i2l C dX2_atLeastWith_80 ?_
      refine G_chn (fun h4 => ?_)
      refine G_ldiv C dX2_atLeastWith_81 h4 ?_
      refine G_ltl (fun v5 => ?_)
      refine G_lstore C dX2_atLeastWith_82 rfl (lv' := [(8, .long v5), (0, .ref (g_b X + 59)), (3, .int x3), (4, .int x4), (5, .int x5), (6, .int x6), (7, .int x7)]) rfl ?_
      refine G_aload_n C dX2_atLeastWith_84 rfl 1 rfl ?_
      refine G_getR C f_X2_atLeastWith_19 t59 rfl dX2_atLeastWith_85 ?_
      refine G_iload C dX2_atLeastWith_88 6 rfl ?_
      refine G_iconst C dX2_atLeastWith_90 (v := 1) (by decide +kernel) ?_
      refine G_iadd C dX2_atLeastWith_91 ?_
      refine G_lti (fun v6 => ?_)
      refine G_dup2 C dX2_atLeastWith_92 rfl rfl ?_
      refine G_chk (fun h7 => ?_)
      refine G_lald C t62 h7 dX2_atLeastWith_93 ?_
      refine G_lload C dX2_atLeastWith_94 0 rfl ?_
      refine G_ladd C dX2_atLeastWith_96 ?_
      refine G_chk (fun h8 => ?_)
      refine G_lst C t62 h8 dX2_atLeastWith_97 ?_
      refine G_lts (fun σ9 => ?_)
      refine G_aload_n C dX2_atLeastWith_98 rfl 1 rfl ?_
      refine G_getR C f_X2_atLeastWith_19 t59 rfl dX2_atLeastWith_99 ?_
      refine G_iload C dX2_atLeastWith_102 6 rfl ?_
      refine G_dup2 C dX2_atLeastWith_104 rfl rfl ?_
      refine G_chk (fun h10 => ?_)
      refine G_lald C t62 h10 dX2_atLeastWith_105 ?_
      refine G_lload C dX2_atLeastWith_106 0 rfl ?_
      refine G_lsub C dX2_atLeastWith_108 ?_
      refine G_chk (fun h11 => ?_)
      refine G_lst C t62 h11 dX2_atLeastWith_109 ?_
      refine G_lts (fun σ12 => ?_)
      refine G_iinc C dX2_atLeastWith_110 6 rfl (v := (x7 + (-1 : Int32))) (by rfl) rfl (lv' := [(7, .int (x7 + (-1 : Int32))), (8, .long v5), (0, .ref (g_b X + 59)), (3, .int x3), (4, .int x4), (5, .int x5), (6, .int x6)]) rfl ?_
      refine G_ltv (fun v => [(7, .int v), (8, .long v5), (0, .ref (g_b X + 59)), (3, .int x3), (4, .int x4), (5, .int x5), (6, .int x6)]) (fun v13 => ?_)
      refine G_goto C dX2_atLeastWith_113 (tgt := 62) (by decide) ?_
      exact G_sub (ih x3 x4 x5 x6 v13 σ12) [2, 3, 4, 5, 6, 0] rfl
set_option maxHeartbeats 4000000 in
set_option maxRecDepth 100000 in
theorem w_m_X2_atLeastWith_37 {X : g_X (Int64 × g_St)} (C : g_C X cX2_atLeastWith RX2 wsX2_atLeastWith rm_m_X2_atLeastWith 10) (q : g_qL X) (hA : g_ag L_m_X2_atLeastWith (g_n X) (g_T X)) (N : Nat) : ∀ (fu : Nat) (x3 : Int32) (x4 : Int32) (x5 : Int32) (x6 : Int32) (σ : g_St), G X 37 [(0, .ref (g_b X + 59)), (3, .int x3), (4, .int x4), (5, .int x5), (6, .int x6)] [] σ (m_X2_atLeastWith_37 N fu x3 x4 x5 x6 σ) := by
  have t59 := g_ag_at hA (c := 59) rfl tc59
  intro fu
  induction fu with
  | zero => intro x3 x4 x5 x6 σ; exact G_none
  | succ fu ih =>
    intro x3 x4 x5 x6 σ
    unfold m_X2_atLeastWith_37
    refine G_iload C dX2_atLeastWith_37 4 rfl ?_
    refine G_aload_n C dX2_atLeastWith_39 rfl 0 rfl ?_
    refine G_getI C f_X2_atLeastWith_26 t59 rfl dX2_atLeastWith_40 ?_
    refine G_icmp_ge C dX2_atLeastWith_43 (tgt := 122) (by decide) (fun c1 => ?_) (fun c1 => ?_)
    · exact G_sub (w_m_X2_atLeastWith_122 C q hA N x3 σ) [0, 1] rfl
    · refine G_iload C dX2_atLeastWith_46 4 rfl ?_
      refine G_bipush C dX2_atLeastWith_48 (v := 8) (by decide +kernel) ?_
      refine G_icmp_ge C dX2_atLeastWith_50 (tgt := 122) (by decide) (fun c2 => ?_) (fun c2 => ?_)
      · exact G_sub (w_m_X2_atLeastWith_122 C q hA N x3 σ) [0, 1] rfl
      · refine G_iload C dX2_atLeastWith_53 2 rfl ?_
        refine G_if_le C dX2_atLeastWith_55 (tgt := 122) (by decide) (fun c3 => ?_) (fun c3 => ?_)
        · exact G_sub (w_m_X2_atLeastWith_122 C q hA N x3 σ) [0, 1] rfl
        · refine G_iload C dX2_atLeastWith_58 4 rfl ?_
          refine G_istore C dX2_atLeastWith_60 rfl (lv' := [(7, .int x6), (0, .ref (g_b X + 59)), (3, .int x3), (4, .int x4), (5, .int x5), (6, .int x6)]) rfl ?_
          exact G_sub (w_m_X2_atLeastWith_62 C q hA (m_X2_atLeastWith_37 N fu) ih N N x3 x4 x5 x6 x6 σ) [1, 2, 3, 4, 5, 0] rfl
set_option maxHeartbeats 4000000 in
set_option maxRecDepth 100000 in
theorem w_m_X2_atLeastWith_0 {X : g_X (Int64 × g_St)} (C : g_C X cX2_atLeastWith RX2 wsX2_atLeastWith rm_m_X2_atLeastWith 10) (q : g_qL X) (hA : g_ag L_m_X2_atLeastWith (g_n X) (g_T X)) (N : Nat) (x2 : Int32) (x3 : Int32) (σ : g_St) : G X 0 [(0, .ref (g_b X + 59)), (1, .ref (g_b X + 13)), (2, .int x2), (3, .int x3)] [] σ (m_X2_atLeastWith N x2 x3 σ) := by
  have t13 := g_ag_at hA (c := 13) rfl tc13
  have t59 := g_ag_at hA (c := 59) rfl tc59
  have t62 := g_ag_at hA (c := 62) rfl tc62
  unfold m_X2_atLeastWith
  refine G_aload_n C dX2_atLeastWith_0 rfl 0 rfl ?_
  refine G_getR C f_X2_atLeastWith_19 t59 rfl dX2_atLeastWith_1 ?_
  refine G_lconst C dX2_atLeastWith_4 (v := 0) (by decide +kernel) ?_
  refine G_callV (rest := []) (fun a ha => g_runS C (nargs := 2) (As := [.ref (g_b X + 62), .long (0 : Int64)]) (rest := []) gX2_atLeastWith_J7_fill_d0a16 rfl (by decide +kernel) rfl rfl rfl dX2_atLeastWith_5 (k_m_J7_fillL_62 X.1.2.1 X.2.1 (g_n X) (g_T X) (g_ag_sub hA (by decide +kernel)) N (0 : Int64) σ a ha)) (fun σ1 => ?_)
  refine G_aload_n C dX2_atLeastWith_8 rfl 0 rfl ?_
  refine G_getR C f_X2_atLeastWith_19 t59 rfl dX2_atLeastWith_9 ?_
  refine G_iconst C dX2_atLeastWith_12 (v := 0) (by decide +kernel) ?_
  refine G_ldc2 C dX2_atLeastWith_13 c_X2_atLeastWith_68 ?_
  refine G_lstk C t62 (by decide +kernel) (k := 0) rfl dX2_atLeastWith_16 ?_
  refine G_lts (fun σ2 => ?_)
  refine G_aload_n C dX2_atLeastWith_17 rfl 1 rfl ?_
  refine G_aload_n C dX2_atLeastWith_18 rfl 0 rfl ?_
  refine G_getI C f_X2_atLeastWith_22 t59 rfl dX2_atLeastWith_19 ?_
  refine G_callI (rest := []) (fun a ha => g_runV C (nargs := 1) (As := [.int (σ2.1 59 3)]) (rest := []) gX2_atLeastWith_X7_weightOf rfl (by decide +kernel) rfl t13 rfl rfl rfl rfl dX2_atLeastWith_22 (k_m_X7_weightOf X.1.2.1 X.2.1 (g_n X) (g_T X) (g_ag_sub hA (by decide +kernel)) N (σ2.1 59 3) σ2 a ha)) (fun q3 => ?_)
  refine G_istore C dX2_atLeastWith_25 rfl (lv' := [(4, .int q3.1), (0, .ref (g_b X + 59)), (1, .ref (g_b X + 13)), (2, .int x2), (3, .int x3)]) rfl ?_
  refine G_aload_n C dX2_atLeastWith_27 rfl 2 rfl ?_
  refine G_iload_n C dX2_atLeastWith_28 rfl 3 rfl ?_
  refine G_callI (rest := []) (fun a ha => g_runV C (nargs := 1) (As := [.int x2]) (rest := []) gX2_atLeastWith_X7_weightOf rfl (by decide +kernel) rfl t13 rfl rfl rfl rfl dX2_atLeastWith_29 (k_m_X7_weightOf X.1.2.1 X.2.1 (g_n X) (g_T X) (g_ag_sub hA (by decide +kernel)) N x2 q3.2 a ha)) (fun q4 => ?_)
  refine G_istore C dX2_atLeastWith_32 rfl (lv' := [(5, .int q4.1), (4, .int q3.1), (0, .ref (g_b X + 59)), (1, .ref (g_b X + 13)), (2, .int x2), (3, .int x3)]) rfl ?_
  refine G_iconst C dX2_atLeastWith_34 (v := 0) (by decide +kernel) ?_
  refine G_istore C dX2_atLeastWith_35 rfl (lv' := [(6, .int (0 : Int32)), (5, .int q4.1), (4, .int q3.1), (0, .ref (g_b X + 59)), (1, .ref (g_b X + 13)), (2, .int x2), (3, .int x3)]) rfl ?_
  exact G_sub (w_m_X2_atLeastWith_37 C q hA N N x3 q3.1 q4.1 (0 : Int32) q4.2) [3, 6, 2, 1, 0] rfl
theorem k_m_X2_atLeastWith (l : Launch) (E : g_E) (n : Nat) (T : Nat → g_Sh) (hA : g_ag L_m_X2_atLeastWith n T) (N : Nat) (x2 : Int32) (x3 : Int32) (σ : g_St) (a : Int64 × g_St) (h : m_X2_atLeastWith N x2 x3 σ = some a) : Met l yX2_atLeastWith wsX2_atLeastWith rm_m_X2_atLeastWith (g_Pc E n T [.ref (E.2.1 + 59), .ref (E.2.1 + 13), .int x2, .int x3] σ) (g_Ql E n T a) 0 0 (g_A E) :=
  g_metL (by decide +kernel) rfl rfl (Nat.le_of_ble_eq_true rfl) (fun M Qf C q => by rw [← h]; exact w_m_X2_atLeastWith_0 C q hA N x2 x3 σ)
def L_m_X2_atLeastWithout : List Nat := [59, 60, 61]
abbrev rm_m_X2_atLeastWithout : Room := { frames := 1, cells := 0, slots := 0, locals := 20 }
theorem f_X2_atLeastWithout_15 : g_Fld wsX2_atLeastWithout RX2 15 2 1 := ⟨RX2, TX2, 6, rfl, by decide +kernel, by decide, by decide +kernel⟩
theorem f_X2_atLeastWithout_22 : g_Fld wsX2_atLeastWithout RX2 22 2 3 := ⟨RX2, TX2, 6, rfl, by decide +kernel, by decide, by decide +kernel⟩
theorem f_X2_atLeastWithout_29 : g_Fld wsX2_atLeastWithout RX2 29 2 5 := ⟨RX2, TX2, 6, rfl, by decide +kernel, by decide, by decide +kernel⟩
theorem f_X2_atLeastWithout_9 : g_Fld wsX2_atLeastWithout RX2 9 2 0 := ⟨RX2, TX2, 6, rfl, by decide +kernel, by decide, by decide +kernel⟩
set_option maxHeartbeats 4000000 in
set_option maxRecDepth 100000 in
theorem w_m_X2_atLeastWithout_56 {X : g_X (Int64 × g_St)} (C : g_C X cX2_atLeastWithout RX2 wsX2_atLeastWithout rm_m_X2_atLeastWithout 7) (q : g_qL X) (hA : g_ag L_m_X2_atLeastWithout (g_n X) (g_T X)) (k5 : Int32 → Int32 → Int64 → Int32 → g_St → Option (Int64 × g_St)) (hk5 : ∀ (x1 : Int32) (x2 : Int32) (x3 : Int64) (x5 : Int32) (σ : g_St), G X 5 [(0, .ref (g_b X + 59)), (1, .int x1), (2, .int x2), (3, .long x3), (5, .int x5)] [] σ (k5 x1 x2 x3 x5 σ)) (N : Nat) (x1 : Int32) (x2 : Int32) (x3 : Int64) (x5 : Int32) (σ : g_St) : G X 56 [(0, .ref (g_b X + 59)), (1, .int x1), (2, .int x2), (3, .long x3), (5, .int x5)] [] σ (m_X2_atLeastWithout_56 k5 N x1 x2 x3 x5 σ) := by
  unfold m_X2_atLeastWithout_56
  refine G_iinc C dX2_atLeastWithout_56 4 rfl (v := (x5 + (1 : Int32))) (by rfl) rfl (lv' := [(5, .int (x5 + (1 : Int32))), (0, .ref (g_b X + 59)), (1, .int x1), (2, .int x2), (3, .long x3)]) rfl ?_
  refine G_ltv (fun v => [(5, .int v), (0, .ref (g_b X + 59)), (1, .int x1), (2, .int x2), (3, .long x3)]) (fun v1 => ?_)
  refine G_goto C dX2_atLeastWithout_59 (tgt := 5) (by decide) ?_
  exact G_sub (hk5 x1 x2 x3 v1 σ) [1, 2, 3, 4, 0] rfl
set_option maxHeartbeats 4000000 in
set_option maxRecDepth 100000 in
theorem w_m_X2_atLeastWithout_5 {X : g_X (Int64 × g_St)} (C : g_C X cX2_atLeastWithout RX2 wsX2_atLeastWithout rm_m_X2_atLeastWithout 7) (q : g_qL X) (hA : g_ag L_m_X2_atLeastWithout (g_n X) (g_T X)) (N : Nat) : ∀ (fu : Nat) (x1 : Int32) (x2 : Int32) (x3 : Int64) (x5 : Int32) (σ : g_St), G X 5 [(0, .ref (g_b X + 59)), (1, .int x1), (2, .int x2), (3, .long x3), (5, .int x5)] [] σ (m_X2_atLeastWithout_5 N fu x1 x2 x3 x5 σ) := by
  have t59 := g_ag_at hA (c := 59) rfl tc59
  have t60 := g_ag_at hA (c := 60) rfl tc60
  have t61 := g_ag_at hA (c := 61) rfl tc61
  intro fu
  induction fu with
  | zero => intro x1 x2 x3 x5 σ; exact G_none
  | succ fu ih =>
    intro x1 x2 x3 x5 σ
    unfold m_X2_atLeastWithout_5
    refine G_iload C dX2_atLeastWithout_5 4 rfl ?_
    refine G_aload_n C dX2_atLeastWithout_7 rfl 0 rfl ?_
    refine G_getI C f_X2_atLeastWithout_29 t59 rfl dX2_atLeastWithout_8 ?_
    refine G_icmp_ge C dX2_atLeastWithout_11 (tgt := 62) (by decide) (fun c1 => ?_) (fun c1 => ?_)
    · refine G_lload_n C dX2_atLeastWithout_62 rfl 3 rfl ?_
      exact G_lret C q dX2_atLeastWithout_63
    · refine G_aload_n C dX2_atLeastWithout_14 rfl 0 rfl ?_
      refine G_getI C f_X2_atLeastWithout_22 t59 rfl dX2_atLeastWithout_15 ?_
      refine G_aload_n C dX2_atLeastWithout_18 rfl 0 rfl ?_
      refine G_getR C f_X2_atLeastWithout_15 t59 rfl dX2_atLeastWithout_19 ?_
      refine G_iload C dX2_atLeastWithout_22 4 rfl ?_
      refine G_chk (fun h2 => ?_)
      refine G_ald C t61 h2 dX2_atLeastWithout_24 ?_
      refine G_iconst C dX2_atLeastWithout_25 (v := -1) (by decide +kernel) ?_
      refine G_ixor C dX2_atLeastWithout_26 ?_
      refine G_iand C dX2_atLeastWithout_27 ?_
      refine G_lti (fun v3 => ?_)
      refine G_istore C dX2_atLeastWithout_28 rfl (lv' := [(6, .int v3), (0, .ref (g_b X + 59)), (1, .int x1), (2, .int x2), (3, .long x3), (5, .int x5)]) rfl ?_
      refine G_iload C dX2_atLeastWithout_30 0 rfl ?_
      refine G_iload_n C dX2_atLeastWithout_32 rfl 2 rfl ?_
      refine G_iand C dX2_atLeastWithout_33 ?_
      refine G_callI (rest := []) (fun a ha => g_runS C (nargs := 1) (As := [.int (v3 &&& x1)]) (rest := []) gX2_atLeastWithout_J6_bitCount_0f7a4 rfl (by decide +kernel) rfl rfl rfl dX2_atLeastWithout_34 (k_m_J6_bitCount X.1.2.1 X.2.1 (g_n X) (g_T X) (g_ag_sub hA (by decide +kernel)) (v3 &&& x1) σ a ha)) (fun q4 => ?_)
      refine G_iload_n C dX2_atLeastWithout_37 rfl 3 rfl ?_
      refine G_icmp_lt C dX2_atLeastWithout_38 (tgt := 56) (by decide) (fun c5 => ?_) (fun c5 => ?_)
      · exact G_sub (w_m_X2_atLeastWithout_56 C q hA (m_X2_atLeastWithout_5 N fu) ih N x1 x2 x3 x5 q4.2) [1, 2, 3, 4, 5] rfl
      · refine G_lload_n C dX2_atLeastWithout_41 rfl 4 rfl ?_
        refine G_aload_n C dX2_atLeastWithout_42 rfl 1 rfl ?_
        refine G_getR C f_X2_atLeastWithout_9 t59 rfl dX2_atLeastWithout_43 ?_
        refine G_aload_n C dX2_atLeastWithout_46 rfl 1 rfl ?_
        refine G_getR C f_X2_atLeastWithout_15 t59 rfl dX2_atLeastWithout_47 ?_
        refine G_iload C dX2_atLeastWithout_50 5 rfl ?_
        refine G_chk (fun h6 => ?_)
        refine G_ald C t61 h6 dX2_atLeastWithout_52 ?_
        refine G_chk (fun h7 => ?_)
        refine G_lald C t60 h7 dX2_atLeastWithout_53 ?_
        refine G_ladd C dX2_atLeastWithout_54 ?_
        refine G_ltl (fun v8 => ?_)
        refine G_lstore_n C dX2_atLeastWithout_55 rfl rfl (lv' := [(3, .long v8), (6, .int v3), (0, .ref (g_b X + 59)), (1, .int x1), (2, .int x2), (5, .int x5)]) rfl ?_
        exact G_sub (w_m_X2_atLeastWithout_56 C q hA (m_X2_atLeastWithout_5 N fu) ih N x1 x2 v8 x5 q4.2) [2, 3, 4, 0, 5] rfl
set_option maxHeartbeats 4000000 in
set_option maxRecDepth 100000 in
theorem w_m_X2_atLeastWithout_0 {X : g_X (Int64 × g_St)} (C : g_C X cX2_atLeastWithout RX2 wsX2_atLeastWithout rm_m_X2_atLeastWithout 7) (q : g_qL X) (hA : g_ag L_m_X2_atLeastWithout (g_n X) (g_T X)) (N : Nat) (x1 : Int32) (x2 : Int32) (σ : g_St) : G X 0 [(0, .ref (g_b X + 59)), (1, .int x1), (2, .int x2)] [] σ (m_X2_atLeastWithout N x1 x2 σ) := by
  unfold m_X2_atLeastWithout
  refine G_lconst C dX2_atLeastWithout_0 (v := 0) (by decide +kernel) ?_
  refine G_lstore_n C dX2_atLeastWithout_1 rfl rfl (lv' := [(3, .long (0 : Int64)), (0, .ref (g_b X + 59)), (1, .int x1), (2, .int x2)]) rfl ?_
  refine G_iconst C dX2_atLeastWithout_2 (v := 0) (by decide +kernel) ?_
  refine G_istore C dX2_atLeastWithout_3 rfl (lv' := [(5, .int (0 : Int32)), (3, .long (0 : Int64)), (0, .ref (g_b X + 59)), (1, .int x1), (2, .int x2)]) rfl ?_
  exact G_sub (w_m_X2_atLeastWithout_5 C q hA N N x1 x2 (0 : Int64) (0 : Int32) σ) [2, 3, 4, 1, 0] rfl
theorem k_m_X2_atLeastWithout (l : Launch) (E : g_E) (n : Nat) (T : Nat → g_Sh) (hA : g_ag L_m_X2_atLeastWithout n T) (N : Nat) (x1 : Int32) (x2 : Int32) (σ : g_St) (a : Int64 × g_St) (h : m_X2_atLeastWithout N x1 x2 σ = some a) : Met l yX2_atLeastWithout wsX2_atLeastWithout rm_m_X2_atLeastWithout (g_Pc E n T [.ref (E.2.1 + 59), .int x1, .int x2] σ) (g_Ql E n T a) 0 0 (g_A E) :=
  g_metL (by decide +kernel) rfl rfl (Nat.le_of_ble_eq_true rfl) (fun M Qf C q => by rw [← h]; exact w_m_X2_atLeastWithout_0 C q hA N x1 x2 σ)
def L_m_X2_atLeast : List Nat := [13, 14, 59, 60, 61, 62]
abbrev rm_m_X2_atLeast : Room := { frames := 3, cells := 0, slots := 0, locals := 73 }
theorem f_X2_atLeast_32 : g_Fld wsX2_atLeast RX2 32 7 5 := ⟨RX7, TX7, 6, rfl, by decide +kernel, by decide, by decide +kernel⟩
set_option maxHeartbeats 4000000 in
set_option maxRecDepth 100000 in
theorem w_m_X2_atLeast_0 {X : g_X (Int64 × g_St)} (C : g_C X cX2_atLeast RX2 wsX2_atLeast rm_m_X2_atLeast 4) (q : g_qL X) (hA : g_ag L_m_X2_atLeast (g_n X) (g_T X)) (N : Nat) (x2 : Int32) (x3 : Int32) (σ : g_St) : G X 0 [(0, .ref (g_b X + 59)), (1, .ref (g_b X + 13)), (2, .int x2), (3, .int x3)] [] σ (m_X2_atLeast N x2 x3 σ) := by
  have t13 := g_ag_at hA (c := 13) rfl tc13
  have t59 := g_ag_at hA (c := 59) rfl tc59
  unfold m_X2_atLeast
  refine G_aload_n C dX2_atLeast_0 rfl 1 rfl ?_
  refine G_getI C f_X2_atLeast_32 t13 rfl dX2_atLeast_1 ?_
  refine G_if_eq C dX2_atLeast_4 (tgt := 17) (by decide) (fun c1 => ?_) (fun c1 => ?_)
  · refine G_aload_n C dX2_atLeast_17 rfl 0 rfl ?_
    refine G_iload_n C dX2_atLeast_18 rfl 2 rfl ?_
    refine G_iload_n C dX2_atLeast_19 rfl 3 rfl ?_
    refine G_callL (rest := []) (fun a ha => g_runV C (nargs := 2) (As := [.int x2, .int x3]) (rest := []) gX2_atLeast_X2_atLeastWithout rfl (by decide +kernel) rfl t59 rfl rfl rfl rfl dX2_atLeast_20 (k_m_X2_atLeastWithout X.1.2.1 X.2.1 (g_n X) (g_T X) (g_ag_sub hA (by decide +kernel)) N x2 x3 σ a ha)) (fun q2 => ?_)
    exact G_lret C q dX2_atLeast_23
  · refine G_aload_n C dX2_atLeast_7 rfl 0 rfl ?_
    refine G_aload_n C dX2_atLeast_8 rfl 1 rfl ?_
    refine G_iload_n C dX2_atLeast_9 rfl 2 rfl ?_
    refine G_iload_n C dX2_atLeast_10 rfl 3 rfl ?_
    refine G_callL (rest := []) (fun a ha => g_runV C (nargs := 3) (As := [.ref (g_b X + 13), .int x2, .int x3]) (rest := []) gX2_atLeast_X2_atLeastWith rfl (by decide +kernel) rfl t59 rfl rfl rfl rfl dX2_atLeast_11 (k_m_X2_atLeastWith X.1.2.1 X.2.1 (g_n X) (g_T X) (g_ag_sub hA (by decide +kernel)) N x2 x3 σ a ha)) (fun q3 => ?_)
    refine G_goto C dX2_atLeast_14 (tgt := 23) (by decide) ?_
    exact G_lret C q dX2_atLeast_23
theorem k_m_X2_atLeast (l : Launch) (E : g_E) (n : Nat) (T : Nat → g_Sh) (hA : g_ag L_m_X2_atLeast n T) (N : Nat) (x2 : Int32) (x3 : Int32) (σ : g_St) (a : Int64 × g_St) (h : m_X2_atLeast N x2 x3 σ = some a) : Met l yX2_atLeast wsX2_atLeast rm_m_X2_atLeast (g_Pc E n T [.ref (E.2.1 + 59), .ref (E.2.1 + 13), .int x2, .int x3] σ) (g_Ql E n T a) 0 0 (g_A E) :=
  g_metL (by decide +kernel) rfl rfl (Nat.le_of_ble_eq_true rfl) (fun M Qf C q => by rw [← h]; exact w_m_X2_atLeast_0 C q hA N x2 x3 σ)
def L_m_X3_clear : List Nat := [54]
abbrev rm_m_X3_clear : Room := { frames := 0, cells := 0, slots := 0, locals := 0 }
theorem p_X3_clear_22 : g_FldP wsX3_clear RX3 22 3 2 .int := ⟨RX3, TX3, 3, tyX3, rfl, by decide +kernel, by decide, by decide +kernel, tyX3_ok, nmX3, rfl, by decide +kernel⟩
set_option maxHeartbeats 4000000 in
set_option maxRecDepth 100000 in
theorem w_m_X3_clear_0 {X : g_X (g_St)} (C : g_C X cX3_clear RX3 wsX3_clear rm_m_X3_clear 1) (q : g_qV X) (hA : g_ag L_m_X3_clear (g_n X) (g_T X)) (σ : g_St) : G X 0 [(0, .ref (g_b X + 54))] [] σ (m_X3_clear σ) := by
  have t54 := g_ag_at hA (c := 54) rfl tc54
  unfold m_X3_clear
  refine G_aload_n C dX3_clear_0 rfl 0 rfl ?_
  refine G_iconst C dX3_clear_1 (v := 0) (by decide +kernel) ?_
  refine G_putI C p_X3_clear_22 t54 rfl rfl rfl dX3_clear_2 ?_
  refine G_lts (fun σ1 => ?_)
  exact G_vret C q dX3_clear_5
theorem k_m_X3_clear (l : Launch) (E : g_E) (n : Nat) (T : Nat → g_Sh) (hA : g_ag L_m_X3_clear n T) (σ : g_St) (a : g_St) (h : m_X3_clear σ = some a) : Met l yX3_clear wsX3_clear rm_m_X3_clear (g_Pc E n T [.ref (E.2.1 + 54)] σ) (g_Qv E n T a) 0 0 (g_A E) :=
  g_metV (by decide +kernel) rfl rfl (Nat.le_of_ble_eq_true rfl) (fun M Qf C q => by rw [← h]; exact w_m_X3_clear_0 C q hA σ)
def L_m_X3_has : List Nat := [54]
abbrev rm_m_X3_has : Room := { frames := 1, cells := 0, slots := 0, locals := 21 }
theorem f_X3_has_22 : g_Fld wsX3_has RX3 22 3 2 := ⟨RX3, TX3, 3, rfl, by decide +kernel, by decide, by decide +kernel⟩
theorem n_X3_has_26 : Cond.methodLinkNest RX3 26 yX10_holds "BirthdayLot" ∈ g_nest := by decide +kernel
theorem w_X3_has_26 : Cond.static yX10_holds ∈ wsX3_has ∧ Cond.initialized (MethodName.cls yX10_holds) ∈ wsX3_has := ⟨by decide +kernel, by decide +kernel⟩
set_option maxHeartbeats 4000000 in
set_option maxRecDepth 100000 in
theorem w_m_X3_has_0 {X : g_X (Int32 × g_St)} (C : g_C X cX3_has RX3 wsX3_has rm_m_X3_has 2) (q : g_qZ X) (hA : g_ag L_m_X3_has (g_n X) (g_T X)) (x1 : Int32) (σ : g_St) : G X 0 [(0, .ref (g_b X + 54)), (1, .int x1)] [] σ (m_X3_has x1 σ) := by
  have t54 := g_ag_at hA (c := 54) rfl tc54
  unfold m_X3_has
  refine G_aload_n C dX3_has_0 rfl 0 rfl ?_
  refine G_getI C f_X3_has_22 t54 rfl dX3_has_1 ?_
  refine G_iload_n C dX3_has_4 rfl 1 rfl ?_
  refine G_callI (rest := []) (fun a ha => g_runSN C (nargs := 2) (As := [.int (σ.1 54 2), .int x1]) (rest := []) (host := "BirthdayLot") gX3_has_X10_holds_n26 rfl n_X3_has_26 w_X3_has_26 (by decide +kernel) rfl rfl rfl dX3_has_5 (k_m_X10_holds X.1.2.1 X.2.1 (g_n X) (g_T X) (g_ag_sub hA (by decide +kernel)) (σ.1 54 2) x1 σ a ha)) (fun q1 => ?_)
  refine G_chk (fun h2 => ?_)
  exact G_zret C q h2 dX3_has_8
theorem k_m_X3_has (l : Launch) (E : g_E) (n : Nat) (T : Nat → g_Sh) (hA : g_ag L_m_X3_has n T) (x1 : Int32) (σ : g_St) (a : Int32 × g_St) (h : m_X3_has x1 σ = some a) : Met l yX3_has wsX3_has rm_m_X3_has (g_Pc E n T [.ref (E.2.1 + 54), .int x1] σ) (g_Qi E n T a) 0 0 (g_A E) :=
  g_metZ (by decide +kernel) rfl rfl (Nat.le_of_ble_eq_true rfl) (fun M Qf C q => by rw [← h]; exact w_m_X3_has_0 C q hA x1 σ)
def L_m_X4_packInto_R : List Nat := [16, 17, 18, 19, 20, 21]
abbrev rm_m_X4_packInto_R : Room := { frames := 1, cells := 0, slots := 0, locals := 60 }
theorem f_X4_packInto_15 : g_Fld wsX4_packInto RX4 15 4 1 := ⟨RX4, TX4, 8, rfl, by decide +kernel, by decide, by decide +kernel⟩
theorem f_X4_packInto_18 : g_Fld wsX4_packInto RX4 18 4 2 := ⟨RX4, TX4, 8, rfl, by decide +kernel, by decide, by decide +kernel⟩
theorem f_X4_packInto_21 : g_Fld wsX4_packInto RX4 21 4 3 := ⟨RX4, TX4, 8, rfl, by decide +kernel, by decide, by decide +kernel⟩
theorem f_X4_packInto_24 : g_Fld wsX4_packInto RX4 24 4 4 := ⟨RX4, TX4, 8, rfl, by decide +kernel, by decide, by decide +kernel⟩
theorem f_X4_packInto_27 : g_Fld wsX4_packInto RX4 27 4 5 := ⟨RX4, TX4, 8, rfl, by decide +kernel, by decide, by decide +kernel⟩
theorem f_X4_packInto_31 : g_Fld wsX4_packInto RX4 31 4 6 := ⟨RX4, TX4, 8, rfl, by decide +kernel, by decide, by decide +kernel⟩
theorem f_X4_packInto_34 : g_Fld wsX4_packInto RX4 34 4 7 := ⟨RX4, TX4, 8, rfl, by decide +kernel, by decide, by decide +kernel⟩
theorem f_X4_packInto_9 : g_Fld wsX4_packInto RX4 9 4 0 := ⟨RX4, TX4, 8, rfl, by decide +kernel, by decide, by decide +kernel⟩
theorem w_X4_packInto_37 : g_cw wsX4_packInto RX4 37 := ⟨by decide +kernel, by decide +kernel, by decide +kernel, by decide +kernel⟩
set_option maxHeartbeats 4000000 in
set_option maxRecDepth 100000 in
theorem w_m_X4_packInto_R_0 {X : g_X (g_St)} (C : g_C X cX4_packInto RX4 wsX4_packInto rm_m_X4_packInto_R 3) (q : g_qV X) (hA : g_ag L_m_X4_packInto_R (g_n X) (g_T X)) (row : Nat) (hrow : g_has (g_n X) (g_T X) row (.inr (.inl 39))) (σ : g_St) : G X 0 [(0, .ref (g_b X + 16)), (1, .ref (g_b X + row))] [] σ (m_X4_packInto_R row σ) := by
  have t16 := g_ag_at hA (c := 16) rfl tc16
  have t17 := g_ag_at hA (c := 17) rfl tc17
  have t18 := g_ag_at hA (c := 18) rfl tc18
  have t19 := g_ag_at hA (c := 19) rfl tc19
  have t20 := g_ag_at hA (c := 20) rfl tc20
  have t21 := g_ag_at hA (c := 21) rfl tc21
  unfold m_X4_packInto_R
  refine G_aload_n C dX4_packInto_0 rfl 1 rfl ?_
  refine G_alen C hrow (v := 39) (by decide +kernel) dX4_packInto_1 ?_
  refine G_bipush C dX4_packInto_2 (v := 39) (by decide +kernel) ?_
  refine G_icmp_ge C dX4_packInto_4 (tgt := 8) (by decide) (fun c1 => ?_) (fun c1 => ?_)
  · refine G_aload_n C dX4_packInto_8 rfl 1 rfl ?_
    refine G_iconst C dX4_packInto_9 (v := 0) (by decide +kernel) ?_
    refine G_aload_n C dX4_packInto_10 rfl 0 rfl ?_
    refine G_getI C f_X4_packInto_27 t16 rfl dX4_packInto_11 ?_
    refine G_astk C hrow (by decide +kernel) (k := 0) rfl dX4_packInto_14 ?_
    refine G_lts (fun σ2 => ?_)
    refine G_aload_n C dX4_packInto_15 rfl 1 rfl ?_
    refine G_iconst C dX4_packInto_16 (v := 1) (by decide +kernel) ?_
    refine G_aload_n C dX4_packInto_17 rfl 0 rfl ?_
    refine G_getI C f_X4_packInto_31 t16 rfl dX4_packInto_18 ?_
    refine G_astk C hrow (by decide +kernel) (k := 1) rfl dX4_packInto_21 ?_
    refine G_lts (fun σ3 => ?_)
    refine G_aload_n C dX4_packInto_22 rfl 1 rfl ?_
    refine G_iconst C dX4_packInto_23 (v := 2) (by decide +kernel) ?_
    refine G_aload_n C dX4_packInto_24 rfl 0 rfl ?_
    refine G_getI C f_X4_packInto_34 t16 rfl dX4_packInto_25 ?_
    refine G_astk C hrow (by decide +kernel) (k := 2) rfl dX4_packInto_28 ?_
    refine G_lts (fun σ4 => ?_)
    refine G_aload_n C dX4_packInto_29 rfl 0 rfl ?_
    refine G_getR C f_X4_packInto_9 t16 rfl dX4_packInto_30 ?_
    refine G_iconst C dX4_packInto_33 (v := 0) (by decide +kernel) ?_
    refine G_aload_n C dX4_packInto_34 rfl 1 rfl ?_
    refine G_iconst C dX4_packInto_35 (v := 3) (by decide +kernel) ?_
    refine G_bipush C dX4_packInto_36 (v := 6) (by decide +kernel) ?_
    refine G_copyk C w_X4_packInto_37 rfl t17 hrow (by decide +kernel) (ks := 0) (kd := 3) (kn := 6) rfl rfl rfl dX4_packInto_38 ?_
    refine G_lts (fun σ5 => ?_)
    refine G_aload_n C dX4_packInto_41 rfl 0 rfl ?_
    refine G_getR C f_X4_packInto_15 t16 rfl dX4_packInto_42 ?_
    refine G_iconst C dX4_packInto_45 (v := 0) (by decide +kernel) ?_
    refine G_aload_n C dX4_packInto_46 rfl 1 rfl ?_
    refine G_bipush C dX4_packInto_47 (v := 9) (by decide +kernel) ?_
    refine G_bipush C dX4_packInto_49 (v := 6) (by decide +kernel) ?_
    refine G_copyk C w_X4_packInto_37 rfl t18 hrow (by decide +kernel) (ks := 0) (kd := 9) (kn := 6) rfl rfl rfl dX4_packInto_51 ?_
    refine G_lts (fun σ6 => ?_)
    refine G_bipush C dX4_packInto_54 (v := 15) (by decide +kernel) ?_
    refine G_istore_n C dX4_packInto_56 rfl rfl (lv' := [(2, .int (15 : Int32)), (0, .ref (g_b X + 16)), (1, .ref (g_b X + row))]) rfl ?_
    refine G_aload_n C dX4_packInto_57 rfl 1 rfl ?_
    refine G_getR C f_X4_packInto_18 t16 rfl dX4_packInto_58 ?_
    refine G_iconst C dX4_packInto_61 (v := 0) (by decide +kernel) ?_
    refine G_aload_n C dX4_packInto_62 rfl 2 rfl ?_
    refine G_iload_n C dX4_packInto_63 rfl 0 rfl ?_
    refine G_bipush C dX4_packInto_64 (v := 8) (by decide +kernel) ?_
    refine G_copyk C w_X4_packInto_37 rfl t19 hrow (by decide +kernel) (ks := 0) (kd := 15) (kn := 8) rfl rfl rfl dX4_packInto_66 ?_
    refine G_lts (fun σ7 => ?_)
    refine G_aload_n C dX4_packInto_69 rfl 1 rfl ?_
    refine G_getR C f_X4_packInto_21 t16 rfl dX4_packInto_70 ?_
    refine G_iconst C dX4_packInto_73 (v := 0) (by decide +kernel) ?_
    refine G_aload_n C dX4_packInto_74 rfl 2 rfl ?_
    refine G_iload_n C dX4_packInto_75 rfl 0 rfl ?_
    refine G_bipush C dX4_packInto_76 (v := 8) (by decide +kernel) ?_
    refine G_iadd C dX4_packInto_78 ?_
    refine G_bipush C dX4_packInto_79 (v := 8) (by decide +kernel) ?_
    refine G_copyk C w_X4_packInto_37 rfl t20 hrow (by decide +kernel) (ks := 0) (kd := 23) (kn := 8) rfl rfl rfl dX4_packInto_81 ?_
    refine G_lts (fun σ8 => ?_)
    refine G_aload_n C dX4_packInto_84 rfl 1 rfl ?_
    refine G_getR C f_X4_packInto_24 t16 rfl dX4_packInto_85 ?_
    refine G_iconst C dX4_packInto_88 (v := 0) (by decide +kernel) ?_
    refine G_aload_n C dX4_packInto_89 rfl 2 rfl ?_
    refine G_iload_n C dX4_packInto_90 rfl 0 rfl ?_
    refine G_bipush C dX4_packInto_91 (v := 16) (by decide +kernel) ?_
    refine G_iadd C dX4_packInto_93 ?_
    refine G_bipush C dX4_packInto_94 (v := 8) (by decide +kernel) ?_
    refine G_copyk C w_X4_packInto_37 rfl t21 hrow (by decide +kernel) (ks := 0) (kd := 31) (kn := 8) rfl rfl rfl dX4_packInto_96 ?_
    refine G_lts (fun σ9 => ?_)
    exact G_vret C q dX4_packInto_99
  · exact G_vret C q dX4_packInto_7
theorem k_m_X4_packInto_R (l : Launch) (E : g_E) (n : Nat) (T : Nat → g_Sh) (hA : g_ag L_m_X4_packInto_R n T) (row : Nat) (hrow : g_has n T row (.inr (.inl 39))) (σ : g_St) (a : g_St) (h : m_X4_packInto_R row σ = some a) : Met l yX4_packInto wsX4_packInto rm_m_X4_packInto_R (g_Pc E n T [.ref (E.2.1 + 16), .ref (E.2.1 + row)] σ) (g_Qv E n T a) 0 0 (g_A E) :=
  g_metV (by decide +kernel) rfl rfl (Nat.le_of_ble_eq_true rfl) (fun M Qf C q => by rw [← h]; exact w_m_X4_packInto_R_0 C q hA row hrow σ)
def L_m_X3_store : List Nat := [16, 17, 18, 19, 20, 21, 54, 55, 56, 57, 58]
abbrev rm_m_X3_store : Room := { frames := 2, cells := 0, slots := 0, locals := 82 }
theorem f_X3_store_13 : g_Fld wsX3_store RX3 13 3 0 := ⟨RX3, TX3, 3, rfl, by decide +kernel, by decide, by decide +kernel⟩
theorem f_X3_store_18 : g_Fld wsX3_store RX3 18 3 1 := ⟨RX3, TX3, 3, rfl, by decide +kernel, by decide, by decide +kernel⟩
theorem f_X3_store_22 : g_Fld wsX3_store RX3 22 3 2 := ⟨RX3, TX3, 3, rfl, by decide +kernel, by decide, by decide +kernel⟩
theorem p_X3_store_22 : g_FldP wsX3_store RX3 22 3 2 .int := ⟨RX3, TX3, 3, tyX3, rfl, by decide +kernel, by decide, by decide +kernel, tyX3_ok, nmX3, rfl, by decide +kernel⟩
set_option maxHeartbeats 4000000 in
set_option maxRecDepth 100000 in
theorem w_m_X3_store_0 {X : g_X (g_St)} (C : g_C X cX3_store RX3 wsX3_store rm_m_X3_store 4) (q : g_qV X) (hA : g_ag L_m_X3_store (g_n X) (g_T X)) (x1 : Int32) (x3 : Int32) (σ : g_St) : G X 0 [(0, .ref (g_b X + 54)), (1, .int x1), (2, .ref (g_b X + 16)), (3, .int x3)] [] σ (m_X3_store x1 x3 σ) := by
  have t16 := g_ag_at hA (c := 16) rfl tc16
  have t54 := g_ag_at hA (c := 54) rfl tc54
  have t55 := g_ag_at hA (c := 55) rfl tc55
  have t58 := g_ag_at hA (c := 58) rfl tc58
  unfold m_X3_store
  refine G_aload_n C dX3_store_0 rfl 2 rfl ?_
  refine G_aload_n C dX3_store_1 rfl 0 rfl ?_
  refine G_getR C f_X3_store_13 t54 rfl dX3_store_2 ?_
  refine G_iload_n C dX3_store_5 rfl 1 rfl ?_
  refine G_chk (fun h1 => ?_)
  refine G_aald C t55 h1 dX3_store_6 ?_
  refine G_callV (rest := []) (fun a ha => g_runV C (nargs := 1) (As := [.ref (g_b X + (56 + x1.toNatClampNeg))]) (rest := []) gX3_store_X4_packInto rfl (by decide +kernel) rfl t16 rfl rfl rfl rfl dX3_store_7 (k_m_X4_packInto_R X.1.2.1 X.2.1 (g_n X) (g_T X) (g_ag_sub hA (by decide +kernel)) (56 + x1.toNatClampNeg) (g_rowh hA (b0 := 56) (cnt := 2) (m := 39) (by decide +kernel) h1) σ a ha)) (fun σ3 => ?_)
  refine G_aload_n C dX3_store_10 rfl 0 rfl ?_
  refine G_getR C f_X3_store_18 t54 rfl dX3_store_11 ?_
  refine G_iload_n C dX3_store_14 rfl 1 rfl ?_
  refine G_iload_n C dX3_store_15 rfl 3 rfl ?_
  refine G_chk (fun h4 => ?_)
  refine G_ast C t58 h4 dX3_store_16 ?_
  refine G_lts (fun σ5 => ?_)
  refine G_aload_n C dX3_store_17 rfl 0 rfl ?_
  refine G_dup C dX3_store_18 rfl ?_
  refine G_getI C f_X3_store_22 t54 rfl dX3_store_19 ?_
  refine G_iconst C dX3_store_22 (v := 1) (by decide +kernel) ?_
  refine G_iload_n C dX3_store_23 rfl 1 rfl ?_
  refine G_ishl C dX3_store_24 ?_
  refine G_ior C dX3_store_25 ?_
  refine G_putI C p_X3_store_22 t54 rfl rfl rfl dX3_store_26 ?_
  refine G_lts (fun σ6 => ?_)
  exact G_vret C q dX3_store_29
theorem k_m_X3_store (l : Launch) (E : g_E) (n : Nat) (T : Nat → g_Sh) (hA : g_ag L_m_X3_store n T) (x1 : Int32) (x3 : Int32) (σ : g_St) (a : g_St) (h : m_X3_store x1 x3 σ = some a) : Met l yX3_store wsX3_store rm_m_X3_store (g_Pc E n T [.ref (E.2.1 + 54), .int x1, .ref (E.2.1 + 16), .int x3] σ) (g_Qv E n T a) 0 0 (g_A E) :=
  g_metV (by decide +kernel) rfl rfl (Nat.le_of_ble_eq_true rfl) (fun M Qf C q => by rw [← h]; exact w_m_X3_store_0 C q hA x1 x3 σ)
def L_m_X4_unpackFrom_R : List Nat := [16, 17, 18, 19, 20, 21]
abbrev rm_m_X4_unpackFrom_R : Room := { frames := 1, cells := 0, slots := 0, locals := 60 }
theorem f_X4_unpackFrom_15 : g_Fld wsX4_unpackFrom RX4 15 4 1 := ⟨RX4, TX4, 8, rfl, by decide +kernel, by decide, by decide +kernel⟩
theorem f_X4_unpackFrom_18 : g_Fld wsX4_unpackFrom RX4 18 4 2 := ⟨RX4, TX4, 8, rfl, by decide +kernel, by decide, by decide +kernel⟩
theorem f_X4_unpackFrom_21 : g_Fld wsX4_unpackFrom RX4 21 4 3 := ⟨RX4, TX4, 8, rfl, by decide +kernel, by decide, by decide +kernel⟩
theorem f_X4_unpackFrom_24 : g_Fld wsX4_unpackFrom RX4 24 4 4 := ⟨RX4, TX4, 8, rfl, by decide +kernel, by decide, by decide +kernel⟩
theorem f_X4_unpackFrom_9 : g_Fld wsX4_unpackFrom RX4 9 4 0 := ⟨RX4, TX4, 8, rfl, by decide +kernel, by decide, by decide +kernel⟩
theorem p_X4_unpackFrom_27 : g_FldP wsX4_unpackFrom RX4 27 4 5 .int := ⟨RX4, TX4, 8, tyX4, rfl, by decide +kernel, by decide, by decide +kernel, tyX4_ok, nmX4, rfl, by decide +kernel⟩
theorem p_X4_unpackFrom_31 : g_FldP wsX4_unpackFrom RX4 31 4 6 .int := ⟨RX4, TX4, 8, tyX4, rfl, by decide +kernel, by decide, by decide +kernel, tyX4_ok, nmX4, rfl, by decide +kernel⟩
theorem p_X4_unpackFrom_34 : g_FldP wsX4_unpackFrom RX4 34 4 7 .int := ⟨RX4, TX4, 8, tyX4, rfl, by decide +kernel, by decide, by decide +kernel, tyX4_ok, nmX4, rfl, by decide +kernel⟩
theorem w_X4_unpackFrom_37 : g_cw wsX4_unpackFrom RX4 37 := ⟨by decide +kernel, by decide +kernel, by decide +kernel, by decide +kernel⟩
set_option maxHeartbeats 4000000 in
set_option maxRecDepth 100000 in
theorem w_m_X4_unpackFrom_R_0 {X : g_X (g_St)} (C : g_C X cX4_unpackFrom RX4 wsX4_unpackFrom rm_m_X4_unpackFrom_R 3) (q : g_qV X) (hA : g_ag L_m_X4_unpackFrom_R (g_n X) (g_T X)) (row : Nat) (hrow : g_has (g_n X) (g_T X) row (.inr (.inl 39))) (σ : g_St) : G X 0 [(0, .ref (g_b X + 16)), (1, .ref (g_b X + row))] [] σ (m_X4_unpackFrom_R row σ) := by
  have t16 := g_ag_at hA (c := 16) rfl tc16
  have t17 := g_ag_at hA (c := 17) rfl tc17
  have t18 := g_ag_at hA (c := 18) rfl tc18
  have t19 := g_ag_at hA (c := 19) rfl tc19
  have t20 := g_ag_at hA (c := 20) rfl tc20
  have t21 := g_ag_at hA (c := 21) rfl tc21
  unfold m_X4_unpackFrom_R
  refine G_aload_n C dX4_unpackFrom_0 rfl 1 rfl ?_
  refine G_alen C hrow (v := 39) (by decide +kernel) dX4_unpackFrom_1 ?_
  refine G_bipush C dX4_unpackFrom_2 (v := 39) (by decide +kernel) ?_
  refine G_icmp_ge C dX4_unpackFrom_4 (tgt := 8) (by decide) (fun c1 => ?_) (fun c1 => ?_)
  · refine G_aload_n C dX4_unpackFrom_8 rfl 0 rfl ?_
    refine G_aload_n C dX4_unpackFrom_9 rfl 1 rfl ?_
    refine G_iconst C dX4_unpackFrom_10 (v := 0) (by decide +kernel) ?_
    refine G_aldk C hrow (by decide +kernel) (k := 0) rfl dX4_unpackFrom_11 ?_
    refine G_putI C p_X4_unpackFrom_27 t16 rfl rfl rfl dX4_unpackFrom_12 ?_
    refine G_lts (fun σ2 => ?_)
    refine G_aload_n C dX4_unpackFrom_15 rfl 0 rfl ?_
    refine G_aload_n C dX4_unpackFrom_16 rfl 1 rfl ?_
    refine G_iconst C dX4_unpackFrom_17 (v := 1) (by decide +kernel) ?_
    refine G_aldk C hrow (by decide +kernel) (k := 1) rfl dX4_unpackFrom_18 ?_
    refine G_putI C p_X4_unpackFrom_31 t16 rfl rfl rfl dX4_unpackFrom_19 ?_
    refine G_lts (fun σ3 => ?_)
    refine G_aload_n C dX4_unpackFrom_22 rfl 0 rfl ?_
    refine G_aload_n C dX4_unpackFrom_23 rfl 1 rfl ?_
    refine G_iconst C dX4_unpackFrom_24 (v := 2) (by decide +kernel) ?_
    refine G_aldk C hrow (by decide +kernel) (k := 2) rfl dX4_unpackFrom_25 ?_
    refine G_putI C p_X4_unpackFrom_34 t16 rfl rfl rfl dX4_unpackFrom_26 ?_
    refine G_lts (fun σ4 => ?_)
    refine G_aload_n C dX4_unpackFrom_29 rfl 1 rfl ?_
    refine G_iconst C dX4_unpackFrom_30 (v := 3) (by decide +kernel) ?_
    refine G_aload_n C dX4_unpackFrom_31 rfl 0 rfl ?_
    refine G_getR C f_X4_unpackFrom_9 t16 rfl dX4_unpackFrom_32 ?_
    refine G_iconst C dX4_unpackFrom_35 (v := 0) (by decide +kernel) ?_
    refine G_bipush C dX4_unpackFrom_36 (v := 6) (by decide +kernel) ?_
    refine G_copyk C w_X4_unpackFrom_37 rfl hrow t17 (by decide +kernel) (ks := 3) (kd := 0) (kn := 6) rfl rfl rfl dX4_unpackFrom_38 ?_
    refine G_lts (fun σ5 => ?_)
    refine G_aload_n C dX4_unpackFrom_41 rfl 1 rfl ?_
    refine G_bipush C dX4_unpackFrom_42 (v := 9) (by decide +kernel) ?_
    refine G_aload_n C dX4_unpackFrom_44 rfl 0 rfl ?_
    refine G_getR C f_X4_unpackFrom_15 t16 rfl dX4_unpackFrom_45 ?_
    refine G_iconst C dX4_unpackFrom_48 (v := 0) (by decide +kernel) ?_
    refine G_bipush C dX4_unpackFrom_49 (v := 6) (by decide +kernel) ?_
    refine G_copyk C w_X4_unpackFrom_37 rfl hrow t18 (by decide +kernel) (ks := 9) (kd := 0) (kn := 6) rfl rfl rfl dX4_unpackFrom_51 ?_
    refine G_lts (fun σ6 => ?_)
    refine G_bipush C dX4_unpackFrom_54 (v := 15) (by decide +kernel) ?_
    refine G_istore_n C dX4_unpackFrom_56 rfl rfl (lv' := [(2, .int (15 : Int32)), (0, .ref (g_b X + 16)), (1, .ref (g_b X + row))]) rfl ?_
    refine G_aload_n C dX4_unpackFrom_57 rfl 2 rfl ?_
    refine G_iload_n C dX4_unpackFrom_58 rfl 0 rfl ?_
    refine G_aload_n C dX4_unpackFrom_59 rfl 1 rfl ?_
    refine G_getR C f_X4_unpackFrom_18 t16 rfl dX4_unpackFrom_60 ?_
    refine G_iconst C dX4_unpackFrom_63 (v := 0) (by decide +kernel) ?_
    refine G_bipush C dX4_unpackFrom_64 (v := 8) (by decide +kernel) ?_
    refine G_copyk C w_X4_unpackFrom_37 rfl hrow t19 (by decide +kernel) (ks := 15) (kd := 0) (kn := 8) rfl rfl rfl dX4_unpackFrom_66 ?_
    refine G_lts (fun σ7 => ?_)
    refine G_aload_n C dX4_unpackFrom_69 rfl 2 rfl ?_
    refine G_iload_n C dX4_unpackFrom_70 rfl 0 rfl ?_
    refine G_bipush C dX4_unpackFrom_71 (v := 8) (by decide +kernel) ?_
    refine G_iadd C dX4_unpackFrom_73 ?_
    refine G_aload_n C dX4_unpackFrom_74 rfl 1 rfl ?_
    refine G_getR C f_X4_unpackFrom_21 t16 rfl dX4_unpackFrom_75 ?_
    refine G_iconst C dX4_unpackFrom_78 (v := 0) (by decide +kernel) ?_
    refine G_bipush C dX4_unpackFrom_79 (v := 8) (by decide +kernel) ?_
    refine G_copyk C w_X4_unpackFrom_37 rfl hrow t20 (by decide +kernel) (ks := 23) (kd := 0) (kn := 8) rfl rfl rfl dX4_unpackFrom_81 ?_
    refine G_lts (fun σ8 => ?_)
    refine G_aload_n C dX4_unpackFrom_84 rfl 2 rfl ?_
    refine G_iload_n C dX4_unpackFrom_85 rfl 0 rfl ?_
    refine G_bipush C dX4_unpackFrom_86 (v := 16) (by decide +kernel) ?_
    refine G_iadd C dX4_unpackFrom_88 ?_
    refine G_aload_n C dX4_unpackFrom_89 rfl 1 rfl ?_
    refine G_getR C f_X4_unpackFrom_24 t16 rfl dX4_unpackFrom_90 ?_
    refine G_iconst C dX4_unpackFrom_93 (v := 0) (by decide +kernel) ?_
    refine G_bipush C dX4_unpackFrom_94 (v := 8) (by decide +kernel) ?_
    refine G_copyk C w_X4_unpackFrom_37 rfl hrow t21 (by decide +kernel) (ks := 31) (kd := 0) (kn := 8) rfl rfl rfl dX4_unpackFrom_96 ?_
    refine G_lts (fun σ9 => ?_)
    exact G_vret C q dX4_unpackFrom_99
  · exact G_vret C q dX4_unpackFrom_7
theorem k_m_X4_unpackFrom_R (l : Launch) (E : g_E) (n : Nat) (T : Nat → g_Sh) (hA : g_ag L_m_X4_unpackFrom_R n T) (row : Nat) (hrow : g_has n T row (.inr (.inl 39))) (σ : g_St) (a : g_St) (h : m_X4_unpackFrom_R row σ = some a) : Met l yX4_unpackFrom wsX4_unpackFrom rm_m_X4_unpackFrom_R (g_Pc E n T [.ref (E.2.1 + 16), .ref (E.2.1 + row)] σ) (g_Qv E n T a) 0 0 (g_A E) :=
  g_metV (by decide +kernel) rfl rfl (Nat.le_of_ble_eq_true rfl) (fun M Qf C q => by rw [← h]; exact w_m_X4_unpackFrom_R_0 C q hA row hrow σ)
def L_m_X3_restore : List Nat := [16, 17, 18, 19, 20, 21, 54, 55, 56, 57, 58]
abbrev rm_m_X3_restore : Room := { frames := 2, cells := 0, slots := 0, locals := 82 }
theorem f_X3_restore_13 : g_Fld wsX3_restore RX3 13 3 0 := ⟨RX3, TX3, 3, rfl, by decide +kernel, by decide, by decide +kernel⟩
theorem f_X3_restore_18 : g_Fld wsX3_restore RX3 18 3 1 := ⟨RX3, TX3, 3, rfl, by decide +kernel, by decide, by decide +kernel⟩
set_option maxHeartbeats 4000000 in
set_option maxRecDepth 100000 in
theorem w_m_X3_restore_0 {X : g_X (Int32 × g_St)} (C : g_C X cX3_restore RX3 wsX3_restore rm_m_X3_restore 3) (q : g_qI X) (hA : g_ag L_m_X3_restore (g_n X) (g_T X)) (x1 : Int32) (σ : g_St) : G X 0 [(0, .ref (g_b X + 54)), (1, .int x1), (2, .ref (g_b X + 16))] [] σ (m_X3_restore x1 σ) := by
  have t16 := g_ag_at hA (c := 16) rfl tc16
  have t54 := g_ag_at hA (c := 54) rfl tc54
  have t55 := g_ag_at hA (c := 55) rfl tc55
  have t58 := g_ag_at hA (c := 58) rfl tc58
  unfold m_X3_restore
  refine G_aload_n C dX3_restore_0 rfl 2 rfl ?_
  refine G_aload_n C dX3_restore_1 rfl 0 rfl ?_
  refine G_getR C f_X3_restore_13 t54 rfl dX3_restore_2 ?_
  refine G_iload_n C dX3_restore_5 rfl 1 rfl ?_
  refine G_chk (fun h1 => ?_)
  refine G_aald C t55 h1 dX3_restore_6 ?_
  refine G_callV (rest := []) (fun a ha => g_runV C (nargs := 1) (As := [.ref (g_b X + (56 + x1.toNatClampNeg))]) (rest := []) gX3_restore_X4_unpackFrom rfl (by decide +kernel) rfl t16 rfl rfl rfl rfl dX3_restore_7 (k_m_X4_unpackFrom_R X.1.2.1 X.2.1 (g_n X) (g_T X) (g_ag_sub hA (by decide +kernel)) (56 + x1.toNatClampNeg) (g_rowh hA (b0 := 56) (cnt := 2) (m := 39) (by decide +kernel) h1) σ a ha)) (fun σ3 => ?_)
  refine G_aload_n C dX3_restore_10 rfl 0 rfl ?_
  refine G_getR C f_X3_restore_18 t54 rfl dX3_restore_11 ?_
  refine G_iload_n C dX3_restore_14 rfl 1 rfl ?_
  refine G_chk (fun h4 => ?_)
  refine G_ald C t58 h4 dX3_restore_15 ?_
  exact G_iret C q dX3_restore_16
theorem k_m_X3_restore (l : Launch) (E : g_E) (n : Nat) (T : Nat → g_Sh) (hA : g_ag L_m_X3_restore n T) (x1 : Int32) (σ : g_St) (a : Int32 × g_St) (h : m_X3_restore x1 σ = some a) : Met l yX3_restore wsX3_restore rm_m_X3_restore (g_Pc E n T [.ref (E.2.1 + 54), .int x1, .ref (E.2.1 + 16)] σ) (g_Qi E n T a) 0 0 (g_A E) :=
  g_metI (by decide +kernel) rfl rfl (Nat.le_of_ble_eq_true rfl) (fun M Qf C q => by rw [← h]; exact w_m_X3_restore_0 C q hA x1 σ)
def L_m_X4_copyFrom_6 : List Nat := [6, 7, 8, 9, 10, 11, 16, 17, 18, 19, 20, 21]
abbrev rm_m_X4_copyFrom_6 : Room := { frames := 1, cells := 0, slots := 0, locals := 60 }
theorem f_X4_copyFrom_15 : g_Fld wsX4_copyFrom RX4 15 4 1 := ⟨RX4, TX4, 8, rfl, by decide +kernel, by decide, by decide +kernel⟩
theorem f_X4_copyFrom_18 : g_Fld wsX4_copyFrom RX4 18 4 2 := ⟨RX4, TX4, 8, rfl, by decide +kernel, by decide, by decide +kernel⟩
theorem f_X4_copyFrom_21 : g_Fld wsX4_copyFrom RX4 21 4 3 := ⟨RX4, TX4, 8, rfl, by decide +kernel, by decide, by decide +kernel⟩
theorem f_X4_copyFrom_24 : g_Fld wsX4_copyFrom RX4 24 4 4 := ⟨RX4, TX4, 8, rfl, by decide +kernel, by decide, by decide +kernel⟩
theorem f_X4_copyFrom_27 : g_Fld wsX4_copyFrom RX4 27 4 5 := ⟨RX4, TX4, 8, rfl, by decide +kernel, by decide, by decide +kernel⟩
theorem f_X4_copyFrom_31 : g_Fld wsX4_copyFrom RX4 31 4 6 := ⟨RX4, TX4, 8, rfl, by decide +kernel, by decide, by decide +kernel⟩
theorem f_X4_copyFrom_34 : g_Fld wsX4_copyFrom RX4 34 4 7 := ⟨RX4, TX4, 8, rfl, by decide +kernel, by decide, by decide +kernel⟩
theorem f_X4_copyFrom_9 : g_Fld wsX4_copyFrom RX4 9 4 0 := ⟨RX4, TX4, 8, rfl, by decide +kernel, by decide, by decide +kernel⟩
theorem p_X4_copyFrom_27 : g_FldP wsX4_copyFrom RX4 27 4 5 .int := ⟨RX4, TX4, 8, tyX4, rfl, by decide +kernel, by decide, by decide +kernel, tyX4_ok, nmX4, rfl, by decide +kernel⟩
theorem p_X4_copyFrom_31 : g_FldP wsX4_copyFrom RX4 31 4 6 .int := ⟨RX4, TX4, 8, tyX4, rfl, by decide +kernel, by decide, by decide +kernel, tyX4_ok, nmX4, rfl, by decide +kernel⟩
theorem p_X4_copyFrom_34 : g_FldP wsX4_copyFrom RX4 34 4 7 .int := ⟨RX4, TX4, 8, tyX4, rfl, by decide +kernel, by decide, by decide +kernel, tyX4_ok, nmX4, rfl, by decide +kernel⟩
theorem w_X4_copyFrom_37 : g_cw wsX4_copyFrom RX4 37 := ⟨by decide +kernel, by decide +kernel, by decide +kernel, by decide +kernel⟩
set_option maxHeartbeats 4000000 in
set_option maxRecDepth 100000 in
theorem w_m_X4_copyFrom_6_0 {X : g_X (g_St)} (C : g_C X cX4_copyFrom RX4 wsX4_copyFrom rm_m_X4_copyFrom_6 2) (q : g_qV X) (hA : g_ag L_m_X4_copyFrom_6 (g_n X) (g_T X)) (σ : g_St) : G X 0 [(0, .ref (g_b X + 16)), (1, .ref (g_b X + 6))] [] σ (m_X4_copyFrom_6 σ) := by
  have t6 := g_ag_at hA (c := 6) rfl tc6
  have t7 := g_ag_at hA (c := 7) rfl tc7
  have t8 := g_ag_at hA (c := 8) rfl tc8
  have t9 := g_ag_at hA (c := 9) rfl tc9
  have t10 := g_ag_at hA (c := 10) rfl tc10
  have t11 := g_ag_at hA (c := 11) rfl tc11
  have t16 := g_ag_at hA (c := 16) rfl tc16
  have t17 := g_ag_at hA (c := 17) rfl tc17
  have t18 := g_ag_at hA (c := 18) rfl tc18
  have t19 := g_ag_at hA (c := 19) rfl tc19
  have t20 := g_ag_at hA (c := 20) rfl tc20
  have t21 := g_ag_at hA (c := 21) rfl tc21
  unfold m_X4_copyFrom_6
  refine G_aload_n C dX4_copyFrom_0 rfl 1 rfl ?_
  refine G_getR C f_X4_copyFrom_9 t6 rfl dX4_copyFrom_1 ?_
  refine G_iconst C dX4_copyFrom_4 (v := 0) (by decide +kernel) ?_
  refine G_aload_n C dX4_copyFrom_5 rfl 0 rfl ?_
  refine G_getR C f_X4_copyFrom_9 t16 rfl dX4_copyFrom_6 ?_
  refine G_iconst C dX4_copyFrom_9 (v := 0) (by decide +kernel) ?_
  refine G_bipush C dX4_copyFrom_10 (v := 6) (by decide +kernel) ?_
  refine G_copyk C w_X4_copyFrom_37 rfl t7 t17 (by decide +kernel) (ks := 0) (kd := 0) (kn := 6) rfl rfl rfl dX4_copyFrom_12 ?_
  refine G_lts (fun σ1 => ?_)
  refine G_aload_n C dX4_copyFrom_15 rfl 1 rfl ?_
  refine G_getR C f_X4_copyFrom_15 t6 rfl dX4_copyFrom_16 ?_
  refine G_iconst C dX4_copyFrom_19 (v := 0) (by decide +kernel) ?_
  refine G_aload_n C dX4_copyFrom_20 rfl 0 rfl ?_
  refine G_getR C f_X4_copyFrom_15 t16 rfl dX4_copyFrom_21 ?_
  refine G_iconst C dX4_copyFrom_24 (v := 0) (by decide +kernel) ?_
  refine G_bipush C dX4_copyFrom_25 (v := 6) (by decide +kernel) ?_
  refine G_copyk C w_X4_copyFrom_37 rfl t8 t18 (by decide +kernel) (ks := 0) (kd := 0) (kn := 6) rfl rfl rfl dX4_copyFrom_27 ?_
  refine G_lts (fun σ2 => ?_)
  refine G_aload_n C dX4_copyFrom_30 rfl 1 rfl ?_
  refine G_getR C f_X4_copyFrom_18 t6 rfl dX4_copyFrom_31 ?_
  refine G_iconst C dX4_copyFrom_34 (v := 0) (by decide +kernel) ?_
  refine G_aload_n C dX4_copyFrom_35 rfl 0 rfl ?_
  refine G_getR C f_X4_copyFrom_18 t16 rfl dX4_copyFrom_36 ?_
  refine G_iconst C dX4_copyFrom_39 (v := 0) (by decide +kernel) ?_
  refine G_bipush C dX4_copyFrom_40 (v := 8) (by decide +kernel) ?_
  refine G_copyk C w_X4_copyFrom_37 rfl t9 t19 (by decide +kernel) (ks := 0) (kd := 0) (kn := 8) rfl rfl rfl dX4_copyFrom_42 ?_
  refine G_lts (fun σ3 => ?_)
  refine G_aload_n C dX4_copyFrom_45 rfl 1 rfl ?_
  refine G_getR C f_X4_copyFrom_21 t6 rfl dX4_copyFrom_46 ?_
  refine G_iconst C dX4_copyFrom_49 (v := 0) (by decide +kernel) ?_
  refine G_aload_n C dX4_copyFrom_50 rfl 0 rfl ?_
  refine G_getR C f_X4_copyFrom_21 t16 rfl dX4_copyFrom_51 ?_
  refine G_iconst C dX4_copyFrom_54 (v := 0) (by decide +kernel) ?_
  refine G_bipush C dX4_copyFrom_55 (v := 8) (by decide +kernel) ?_
  refine G_copyk C w_X4_copyFrom_37 rfl t10 t20 (by decide +kernel) (ks := 0) (kd := 0) (kn := 8) rfl rfl rfl dX4_copyFrom_57 ?_
  refine G_lts (fun σ4 => ?_)
  refine G_aload_n C dX4_copyFrom_60 rfl 1 rfl ?_
  refine G_getR C f_X4_copyFrom_24 t6 rfl dX4_copyFrom_61 ?_
  refine G_iconst C dX4_copyFrom_64 (v := 0) (by decide +kernel) ?_
  refine G_aload_n C dX4_copyFrom_65 rfl 0 rfl ?_
  refine G_getR C f_X4_copyFrom_24 t16 rfl dX4_copyFrom_66 ?_
  refine G_iconst C dX4_copyFrom_69 (v := 0) (by decide +kernel) ?_
  refine G_bipush C dX4_copyFrom_70 (v := 8) (by decide +kernel) ?_
  refine G_copyk C w_X4_copyFrom_37 rfl t11 t21 (by decide +kernel) (ks := 0) (kd := 0) (kn := 8) rfl rfl rfl dX4_copyFrom_72 ?_
  refine G_lts (fun σ5 => ?_)
  refine G_aload_n C dX4_copyFrom_75 rfl 0 rfl ?_
  refine G_aload_n C dX4_copyFrom_76 rfl 1 rfl ?_
  refine G_getI C f_X4_copyFrom_27 t6 rfl dX4_copyFrom_77 ?_
  refine G_putI C p_X4_copyFrom_27 t16 rfl rfl rfl dX4_copyFrom_80 ?_
  refine G_lts (fun σ6 => ?_)
  refine G_aload_n C dX4_copyFrom_83 rfl 0 rfl ?_
  refine G_aload_n C dX4_copyFrom_84 rfl 1 rfl ?_
  refine G_getI C f_X4_copyFrom_31 t6 rfl dX4_copyFrom_85 ?_
  refine G_putI C p_X4_copyFrom_31 t16 rfl rfl rfl dX4_copyFrom_88 ?_
  refine G_lts (fun σ7 => ?_)
  refine G_aload_n C dX4_copyFrom_91 rfl 0 rfl ?_
  refine G_aload_n C dX4_copyFrom_92 rfl 1 rfl ?_
  refine G_getI C f_X4_copyFrom_34 t6 rfl dX4_copyFrom_93 ?_
  refine G_putI C p_X4_copyFrom_34 t16 rfl rfl rfl dX4_copyFrom_96 ?_
  refine G_lts (fun σ8 => ?_)
  exact G_vret C q dX4_copyFrom_99
theorem k_m_X4_copyFrom_6 (l : Launch) (E : g_E) (n : Nat) (T : Nat → g_Sh) (hA : g_ag L_m_X4_copyFrom_6 n T) (σ : g_St) (a : g_St) (h : m_X4_copyFrom_6 σ = some a) : Met l yX4_copyFrom wsX4_copyFrom rm_m_X4_copyFrom_6 (g_Pc E n T [.ref (E.2.1 + 16), .ref (E.2.1 + 6)] σ) (g_Qv E n T a) 0 0 (g_A E) :=
  g_metV (by decide +kernel) rfl rfl (Nat.le_of_ble_eq_true rfl) (fun M Qf C q => by rw [← h]; exact w_m_X4_copyFrom_6_0 C q hA σ)
def L_m_X4_heldBy : List Nat := [16, 19]
abbrev rm_m_X4_heldBy : Room := { frames := 0, cells := 0, slots := 0, locals := 0 }
theorem f_X4_heldBy_18 : g_Fld wsX4_heldBy RX4 18 4 2 := ⟨RX4, TX4, 8, rfl, by decide +kernel, by decide, by decide +kernel⟩
set_option maxHeartbeats 4000000 in
set_option maxRecDepth 100000 in
theorem w_m_X4_heldBy_29 {X : g_X (Int32 × g_St)} (C : g_C X cX4_heldBy RX4 wsX4_heldBy rm_m_X4_heldBy 5) (q : g_qI X) (hA : g_ag L_m_X4_heldBy (g_n X) (g_T X)) (k5 : Int32 → Int32 → Int32 → Int32 → g_St → Option (Int32 × g_St)) (hk5 : ∀ (x1 : Int32) (x2 : Int32) (x3 : Int32) (x4 : Int32) (σ : g_St), G X 5 [(0, .ref (g_b X + 16)), (1, .int x1), (2, .int x2), (3, .int x3), (4, .int x4)] [] σ (k5 x1 x2 x3 x4 σ)) (N : Nat) (x1 : Int32) (x2 : Int32) (x3 : Int32) (x4 : Int32) (σ : g_St) : G X 29 [(0, .ref (g_b X + 16)), (1, .int x1), (2, .int x2), (3, .int x3), (4, .int x4)] [] σ (m_X4_heldBy_29 k5 N x1 x2 x3 x4 σ) := by
  unfold m_X4_heldBy_29
  refine G_iinc C dX4_heldBy_29 4 rfl (v := (x4 + (1 : Int32))) (by rfl) rfl (lv' := [(4, .int (x4 + (1 : Int32))), (0, .ref (g_b X + 16)), (1, .int x1), (2, .int x2), (3, .int x3)]) rfl ?_
  refine G_ltv (fun v => [(4, .int v), (0, .ref (g_b X + 16)), (1, .int x1), (2, .int x2), (3, .int x3)]) (fun v1 => ?_)
  refine G_goto C dX4_heldBy_32 (tgt := 5) (by decide) ?_
  exact G_sub (hk5 x1 x2 x3 v1 σ) [1, 2, 3, 4, 0] rfl
set_option maxHeartbeats 4000000 in
set_option maxRecDepth 100000 in
theorem w_m_X4_heldBy_5 {X : g_X (Int32 × g_St)} (C : g_C X cX4_heldBy RX4 wsX4_heldBy rm_m_X4_heldBy 5) (q : g_qI X) (hA : g_ag L_m_X4_heldBy (g_n X) (g_T X)) (N : Nat) : ∀ (fu : Nat) (x1 : Int32) (x2 : Int32) (x3 : Int32) (x4 : Int32) (σ : g_St), G X 5 [(0, .ref (g_b X + 16)), (1, .int x1), (2, .int x2), (3, .int x3), (4, .int x4)] [] σ (m_X4_heldBy_5 N fu x1 x2 x3 x4 σ) := by
  have t16 := g_ag_at hA (c := 16) rfl tc16
  have t19 := g_ag_at hA (c := 19) rfl tc19
  intro fu
  induction fu with
  | zero => intro x1 x2 x3 x4 σ; exact G_none
  | succ fu ih =>
    intro x1 x2 x3 x4 σ
    unfold m_X4_heldBy_5
    refine G_iload C dX4_heldBy_5 4 rfl ?_
    refine G_iload_n C dX4_heldBy_7 rfl 2 rfl ?_
    refine G_icmp_ge C dX4_heldBy_8 (tgt := 35) (by decide) (fun c1 => ?_) (fun c1 => ?_)
    · refine G_iload_n C dX4_heldBy_35 rfl 3 rfl ?_
      exact G_iret C q dX4_heldBy_36
    · refine G_aload_n C dX4_heldBy_11 rfl 0 rfl ?_
      refine G_getR C f_X4_heldBy_18 t16 rfl dX4_heldBy_12 ?_
      refine G_iload C dX4_heldBy_15 4 rfl ?_
      refine G_chk (fun h2 => ?_)
      refine G_ald C t19 h2 dX4_heldBy_17 ?_
      refine G_iload_n C dX4_heldBy_18 rfl 1 rfl ?_
      refine G_icmp_ne C dX4_heldBy_19 (tgt := 29) (by decide) (fun c3 => ?_) (fun c3 => ?_)
      · refine G_iload_n C dX4_heldBy_22 rfl 3 rfl ?_
        refine G_iconst C dX4_heldBy_23 (v := 1) (by decide +kernel) ?_
        refine G_iload C dX4_heldBy_24 4 rfl ?_
        refine G_ishl C dX4_heldBy_26 ?_
        refine G_ior C dX4_heldBy_27 ?_
        refine G_lti (fun v4 => ?_)
        refine G_istore_n C dX4_heldBy_28 rfl rfl (lv' := [(3, .int v4), (0, .ref (g_b X + 16)), (1, .int x1), (2, .int x2), (4, .int x4)]) rfl ?_
        exact G_sub (w_m_X4_heldBy_29 C q hA (m_X4_heldBy_5 N fu) ih N x1 x2 v4 x4 σ) [1, 2, 3, 0, 4] rfl
      · exact w_m_X4_heldBy_29 C q hA (m_X4_heldBy_5 N fu) ih N x1 x2 x3 x4 σ
set_option maxHeartbeats 4000000 in
set_option maxRecDepth 100000 in
theorem w_m_X4_heldBy_0 {X : g_X (Int32 × g_St)} (C : g_C X cX4_heldBy RX4 wsX4_heldBy rm_m_X4_heldBy 5) (q : g_qI X) (hA : g_ag L_m_X4_heldBy (g_n X) (g_T X)) (N : Nat) (x1 : Int32) (x2 : Int32) (σ : g_St) : G X 0 [(0, .ref (g_b X + 16)), (1, .int x1), (2, .int x2)] [] σ (m_X4_heldBy N x1 x2 σ) := by
  unfold m_X4_heldBy
  refine G_iconst C dX4_heldBy_0 (v := 0) (by decide +kernel) ?_
  refine G_istore_n C dX4_heldBy_1 rfl rfl (lv' := [(3, .int (0 : Int32)), (0, .ref (g_b X + 16)), (1, .int x1), (2, .int x2)]) rfl ?_
  refine G_iconst C dX4_heldBy_2 (v := 0) (by decide +kernel) ?_
  refine G_istore C dX4_heldBy_3 rfl (lv' := [(4, .int (0 : Int32)), (3, .int (0 : Int32)), (0, .ref (g_b X + 16)), (1, .int x1), (2, .int x2)]) rfl ?_
  exact G_sub (w_m_X4_heldBy_5 C q hA N N x1 x2 (0 : Int32) (0 : Int32) σ) [2, 3, 4, 1, 0] rfl
theorem k_m_X4_heldBy (l : Launch) (E : g_E) (n : Nat) (T : Nat → g_Sh) (hA : g_ag L_m_X4_heldBy n T) (N : Nat) (x1 : Int32) (x2 : Int32) (σ : g_St) (a : Int32 × g_St) (h : m_X4_heldBy N x1 x2 σ = some a) : Met l yX4_heldBy wsX4_heldBy rm_m_X4_heldBy (g_Pc E n T [.ref (E.2.1 + 16), .int x1, .int x2] σ) (g_Qi E n T a) 0 0 (g_A E) :=
  g_metI (by decide +kernel) rfl rfl (Nat.le_of_ble_eq_true rfl) (fun M Qf C q => by rw [← h]; exact w_m_X4_heldBy_0 C q hA N x1 x2 σ)
def L_m_X4_agingFor : List Nat := [16, 19, 20]
abbrev rm_m_X4_agingFor : Room := { frames := 1, cells := 0, slots := 0, locals := 21 }
set_option maxHeartbeats 4000000 in
set_option maxRecDepth 100000 in
theorem w_m_X4_agingFor_28 {X : g_X (Int32 × g_St)} (C : g_C X cX4_agingFor RX4 wsX4_agingFor rm_m_X4_agingFor 5) (q : g_qI X) (hA : g_ag L_m_X4_agingFor (g_n X) (g_T X)) (k5 : Int32 → Int32 → Int32 → Int32 → g_St → Option (Int32 × g_St)) (hk5 : ∀ (x1 : Int32) (x2 : Int32) (x3 : Int32) (x4 : Int32) (σ : g_St), G X 5 [(0, .ref (g_b X + 16)), (1, .int x1), (2, .int x2), (3, .int x3), (4, .int x4)] [] σ (k5 x1 x2 x3 x4 σ)) (N : Nat) (x1 : Int32) (x2 : Int32) (x3 : Int32) (x4 : Int32) (σ : g_St) : G X 28 [(0, .ref (g_b X + 16)), (1, .int x1), (2, .int x2), (3, .int x3), (4, .int x4)] [] σ (m_X4_agingFor_28 k5 N x1 x2 x3 x4 σ) := by
  unfold m_X4_agingFor_28
  refine G_iinc C dX4_agingFor_28 4 rfl (v := (x4 + (1 : Int32))) (by rfl) rfl (lv' := [(4, .int (x4 + (1 : Int32))), (0, .ref (g_b X + 16)), (1, .int x1), (2, .int x2), (3, .int x3)]) rfl ?_
  refine G_ltv (fun v => [(4, .int v), (0, .ref (g_b X + 16)), (1, .int x1), (2, .int x2), (3, .int x3)]) (fun v1 => ?_)
  refine G_goto C dX4_agingFor_31 (tgt := 5) (by decide) ?_
  exact G_sub (hk5 x1 x2 x3 v1 σ) [1, 2, 3, 4, 0] rfl
set_option maxHeartbeats 4000000 in
set_option maxRecDepth 100000 in
theorem w_m_X4_agingFor_5 {X : g_X (Int32 × g_St)} (C : g_C X cX4_agingFor RX4 wsX4_agingFor rm_m_X4_agingFor 5) (q : g_qI X) (hA : g_ag L_m_X4_agingFor (g_n X) (g_T X)) (N : Nat) : ∀ (fu : Nat) (x1 : Int32) (x2 : Int32) (x3 : Int32) (x4 : Int32) (σ : g_St), G X 5 [(0, .ref (g_b X + 16)), (1, .int x1), (2, .int x2), (3, .int x3), (4, .int x4)] [] σ (m_X4_agingFor_5 N fu x1 x2 x3 x4 σ) := by
  have t16 := g_ag_at hA (c := 16) rfl tc16
  intro fu
  induction fu with
  | zero => intro x1 x2 x3 x4 σ; exact G_none
  | succ fu ih =>
    intro x1 x2 x3 x4 σ
    unfold m_X4_agingFor_5
    refine G_iload C dX4_agingFor_5 4 rfl ?_
    refine G_iload_n C dX4_agingFor_7 rfl 2 rfl ?_
    refine G_icmp_ge C dX4_agingFor_8 (tgt := 34) (by decide) (fun c1 => ?_) (fun c1 => ?_)
    · refine G_iload_n C dX4_agingFor_34 rfl 3 rfl ?_
      exact G_iret C q dX4_agingFor_35
    · refine G_aload_n C dX4_agingFor_11 rfl 0 rfl ?_
      refine G_iload C dX4_agingFor_12 4 rfl ?_
      refine G_callI (rest := []) (fun a ha => g_runV C (nargs := 1) (As := [.int x4]) (rest := []) gX4_agingFor_X4_whoAges rfl (by decide +kernel) rfl t16 rfl rfl rfl rfl dX4_agingFor_14 (k_m_X4_whoAges X.1.2.1 X.2.1 (g_n X) (g_T X) (g_ag_sub hA (by decide +kernel)) x4 σ a ha)) (fun q2 => ?_)
      refine G_iload_n C dX4_agingFor_17 rfl 1 rfl ?_
      refine G_icmp_ne C dX4_agingFor_18 (tgt := 28) (by decide) (fun c3 => ?_) (fun c3 => ?_)
      · refine G_iload_n C dX4_agingFor_21 rfl 3 rfl ?_
        refine G_iconst C dX4_agingFor_22 (v := 1) (by decide +kernel) ?_
        refine G_iload C dX4_agingFor_23 4 rfl ?_
        refine G_ishl C dX4_agingFor_25 ?_
        refine G_ior C dX4_agingFor_26 ?_
        refine G_lti (fun v4 => ?_)
        refine G_istore_n C dX4_agingFor_27 rfl rfl (lv' := [(3, .int v4), (0, .ref (g_b X + 16)), (1, .int x1), (2, .int x2), (4, .int x4)]) rfl ?_
        exact G_sub (w_m_X4_agingFor_28 C q hA (m_X4_agingFor_5 N fu) ih N x1 x2 v4 x4 q2.2) [1, 2, 3, 0, 4] rfl
      · exact w_m_X4_agingFor_28 C q hA (m_X4_agingFor_5 N fu) ih N x1 x2 x3 x4 q2.2
set_option maxHeartbeats 4000000 in
set_option maxRecDepth 100000 in
theorem w_m_X4_agingFor_0 {X : g_X (Int32 × g_St)} (C : g_C X cX4_agingFor RX4 wsX4_agingFor rm_m_X4_agingFor 5) (q : g_qI X) (hA : g_ag L_m_X4_agingFor (g_n X) (g_T X)) (N : Nat) (x1 : Int32) (x2 : Int32) (σ : g_St) : G X 0 [(0, .ref (g_b X + 16)), (1, .int x1), (2, .int x2)] [] σ (m_X4_agingFor N x1 x2 σ) := by
  unfold m_X4_agingFor
  refine G_iconst C dX4_agingFor_0 (v := 0) (by decide +kernel) ?_
  refine G_istore_n C dX4_agingFor_1 rfl rfl (lv' := [(3, .int (0 : Int32)), (0, .ref (g_b X + 16)), (1, .int x1), (2, .int x2)]) rfl ?_
  refine G_iconst C dX4_agingFor_2 (v := 0) (by decide +kernel) ?_
  refine G_istore C dX4_agingFor_3 rfl (lv' := [(4, .int (0 : Int32)), (3, .int (0 : Int32)), (0, .ref (g_b X + 16)), (1, .int x1), (2, .int x2)]) rfl ?_
  exact G_sub (w_m_X4_agingFor_5 C q hA N N x1 x2 (0 : Int32) (0 : Int32) σ) [2, 3, 4, 1, 0] rfl
theorem k_m_X4_agingFor (l : Launch) (E : g_E) (n : Nat) (T : Nat → g_Sh) (hA : g_ag L_m_X4_agingFor n T) (N : Nat) (x1 : Int32) (x2 : Int32) (σ : g_St) (a : Int32 × g_St) (h : m_X4_agingFor N x1 x2 σ = some a) : Met l yX4_agingFor wsX4_agingFor rm_m_X4_agingFor (g_Pc E n T [.ref (E.2.1 + 16), .int x1, .int x2] σ) (g_Qi E n T a) 0 0 (g_A E) :=
  g_metI (by decide +kernel) rfl rfl (Nat.le_of_ble_eq_true rfl) (fun M Qf C q => by rw [← h]; exact w_m_X4_agingFor_0 C q hA N x1 x2 σ)
def L_m_X4_forSaleTo : List Nat := [16, 19, 20]
abbrev rm_m_X4_forSaleTo : Room := { frames := 0, cells := 0, slots := 0, locals := 0 }
theorem f_X4_forSaleTo_18 : g_Fld wsX4_forSaleTo RX4 18 4 2 := ⟨RX4, TX4, 8, rfl, by decide +kernel, by decide, by decide +kernel⟩
theorem f_X4_forSaleTo_21 : g_Fld wsX4_forSaleTo RX4 21 4 3 := ⟨RX4, TX4, 8, rfl, by decide +kernel, by decide, by decide +kernel⟩
set_option maxHeartbeats 4000000 in
set_option maxRecDepth 100000 in
theorem w_m_X4_forSaleTo_40 {X : g_X (Int32 × g_St)} (C : g_C X cX4_forSaleTo RX4 wsX4_forSaleTo rm_m_X4_forSaleTo 5) (q : g_qI X) (hA : g_ag L_m_X4_forSaleTo (g_n X) (g_T X)) (k5 : Int32 → Int32 → Int32 → Int32 → g_St → Option (Int32 × g_St)) (hk5 : ∀ (x1 : Int32) (x2 : Int32) (x3 : Int32) (x4 : Int32) (σ : g_St), G X 5 [(0, .ref (g_b X + 16)), (1, .int x1), (2, .int x2), (3, .int x3), (4, .int x4)] [] σ (k5 x1 x2 x3 x4 σ)) (N : Nat) (x1 : Int32) (x2 : Int32) (x3 : Int32) (x4 : Int32) (σ : g_St) : G X 40 [(0, .ref (g_b X + 16)), (1, .int x1), (2, .int x2), (3, .int x3), (4, .int x4)] [] σ (m_X4_forSaleTo_40 k5 N x1 x2 x3 x4 σ) := by
  unfold m_X4_forSaleTo_40
  refine G_iinc C dX4_forSaleTo_40 4 rfl (v := (x4 + (1 : Int32))) (by rfl) rfl (lv' := [(4, .int (x4 + (1 : Int32))), (0, .ref (g_b X + 16)), (1, .int x1), (2, .int x2), (3, .int x3)]) rfl ?_
  refine G_ltv (fun v => [(4, .int v), (0, .ref (g_b X + 16)), (1, .int x1), (2, .int x2), (3, .int x3)]) (fun v1 => ?_)
  refine G_goto C dX4_forSaleTo_43 (tgt := 5) (by decide) ?_
  exact G_sub (hk5 x1 x2 x3 v1 σ) [1, 2, 3, 4, 0] rfl
set_option maxHeartbeats 4000000 in
set_option maxRecDepth 100000 in
theorem w_m_X4_forSaleTo_5 {X : g_X (Int32 × g_St)} (C : g_C X cX4_forSaleTo RX4 wsX4_forSaleTo rm_m_X4_forSaleTo 5) (q : g_qI X) (hA : g_ag L_m_X4_forSaleTo (g_n X) (g_T X)) (N : Nat) : ∀ (fu : Nat) (x1 : Int32) (x2 : Int32) (x3 : Int32) (x4 : Int32) (σ : g_St), G X 5 [(0, .ref (g_b X + 16)), (1, .int x1), (2, .int x2), (3, .int x3), (4, .int x4)] [] σ (m_X4_forSaleTo_5 N fu x1 x2 x3 x4 σ) := by
  have t16 := g_ag_at hA (c := 16) rfl tc16
  have t19 := g_ag_at hA (c := 19) rfl tc19
  have t20 := g_ag_at hA (c := 20) rfl tc20
  intro fu
  induction fu with
  | zero => intro x1 x2 x3 x4 σ; exact G_none
  | succ fu ih =>
    intro x1 x2 x3 x4 σ
    unfold m_X4_forSaleTo_5
    refine G_iload C dX4_forSaleTo_5 4 rfl ?_
    refine G_iload_n C dX4_forSaleTo_7 rfl 2 rfl ?_
    refine G_icmp_ge C dX4_forSaleTo_8 (tgt := 46) (by decide) (fun c1 => ?_) (fun c1 => ?_)
    · refine G_iload_n C dX4_forSaleTo_46 rfl 3 rfl ?_
      exact G_iret C q dX4_forSaleTo_47
    · refine G_aload_n C dX4_forSaleTo_11 rfl 0 rfl ?_
      refine G_getR C f_X4_forSaleTo_18 t16 rfl dX4_forSaleTo_12 ?_
      refine G_iload C dX4_forSaleTo_15 4 rfl ?_
      refine G_chk (fun h2 => ?_)
      refine G_ald C t19 h2 dX4_forSaleTo_17 ?_
      refine G_iload_n C dX4_forSaleTo_18 rfl 1 rfl ?_
      refine G_icmp_eq C dX4_forSaleTo_19 (tgt := 40) (by decide) (fun c3 => ?_) (fun c3 => ?_)
      · exact w_m_X4_forSaleTo_40 C q hA (m_X4_forSaleTo_5 N fu) ih N x1 x2 x3 x4 σ
      · refine G_aload_n C dX4_forSaleTo_22 rfl 0 rfl ?_
        refine G_getR C f_X4_forSaleTo_21 t16 rfl dX4_forSaleTo_23 ?_
        refine G_iload C dX4_forSaleTo_26 4 rfl ?_
        refine G_chk (fun h4 => ?_)
        refine G_ald C t20 h4 dX4_forSaleTo_28 ?_
        refine G_iconst C dX4_forSaleTo_29 (v := -1) (by decide +kernel) ?_
        refine G_icmp_ne C dX4_forSaleTo_30 (tgt := 40) (by decide) (fun c5 => ?_) (fun c5 => ?_)
        · refine G_iload_n C dX4_forSaleTo_33 rfl 3 rfl ?_
          refine G_iconst C dX4_forSaleTo_34 (v := 1) (by decide +kernel) ?_
          refine G_iload C dX4_forSaleTo_35 4 rfl ?_
          refine G_ishl C dX4_forSaleTo_37 ?_
          refine G_ior C dX4_forSaleTo_38 ?_
          refine G_lti (fun v6 => ?_)
          refine G_istore_n C dX4_forSaleTo_39 rfl rfl (lv' := [(3, .int v6), (0, .ref (g_b X + 16)), (1, .int x1), (2, .int x2), (4, .int x4)]) rfl ?_
          exact G_sub (w_m_X4_forSaleTo_40 C q hA (m_X4_forSaleTo_5 N fu) ih N x1 x2 v6 x4 σ) [1, 2, 3, 0, 4] rfl
        · exact w_m_X4_forSaleTo_40 C q hA (m_X4_forSaleTo_5 N fu) ih N x1 x2 x3 x4 σ
set_option maxHeartbeats 4000000 in
set_option maxRecDepth 100000 in
theorem w_m_X4_forSaleTo_0 {X : g_X (Int32 × g_St)} (C : g_C X cX4_forSaleTo RX4 wsX4_forSaleTo rm_m_X4_forSaleTo 5) (q : g_qI X) (hA : g_ag L_m_X4_forSaleTo (g_n X) (g_T X)) (N : Nat) (x1 : Int32) (x2 : Int32) (σ : g_St) : G X 0 [(0, .ref (g_b X + 16)), (1, .int x1), (2, .int x2)] [] σ (m_X4_forSaleTo N x1 x2 σ) := by
  unfold m_X4_forSaleTo
  refine G_iconst C dX4_forSaleTo_0 (v := 0) (by decide +kernel) ?_
  refine G_istore_n C dX4_forSaleTo_1 rfl rfl (lv' := [(3, .int (0 : Int32)), (0, .ref (g_b X + 16)), (1, .int x1), (2, .int x2)]) rfl ?_
  refine G_iconst C dX4_forSaleTo_2 (v := 0) (by decide +kernel) ?_
  refine G_istore C dX4_forSaleTo_3 rfl (lv' := [(4, .int (0 : Int32)), (3, .int (0 : Int32)), (0, .ref (g_b X + 16)), (1, .int x1), (2, .int x2)]) rfl ?_
  exact G_sub (w_m_X4_forSaleTo_5 C q hA N N x1 x2 (0 : Int32) (0 : Int32) σ) [2, 3, 4, 1, 0] rfl
theorem k_m_X4_forSaleTo (l : Launch) (E : g_E) (n : Nat) (T : Nat → g_Sh) (hA : g_ag L_m_X4_forSaleTo n T) (N : Nat) (x1 : Int32) (x2 : Int32) (σ : g_St) (a : Int32 × g_St) (h : m_X4_forSaleTo N x1 x2 σ = some a) : Met l yX4_forSaleTo wsX4_forSaleTo rm_m_X4_forSaleTo (g_Pc E n T [.ref (E.2.1 + 16), .int x1, .int x2] σ) (g_Qi E n T a) 0 0 (g_A E) :=
  g_metI (by decide +kernel) rfl rfl (Nat.le_of_ble_eq_true rfl) (fun M Qf C q => by rw [← h]; exact w_m_X4_forSaleTo_0 C q hA N x1 x2 σ)
def L_m_X4_priceOf : List Nat := [16, 21]
abbrev rm_m_X4_priceOf : Room := { frames := 1, cells := 0, slots := 0, locals := 21 }
theorem f_X4_priceOf_24 : g_Fld wsX4_priceOf RX4 24 4 4 := ⟨RX4, TX4, 8, rfl, by decide +kernel, by decide, by decide +kernel⟩
theorem n_X4_priceOf_47 : Cond.methodLinkNest RX4 47 yX10_holds "BirthdayLot" ∈ g_nest := by decide +kernel
theorem w_X4_priceOf_47 : Cond.static yX10_holds ∈ wsX4_priceOf ∧ Cond.initialized (MethodName.cls yX10_holds) ∈ wsX4_priceOf := ⟨by decide +kernel, by decide +kernel⟩
set_option maxHeartbeats 4000000 in
set_option maxRecDepth 100000 in
theorem w_m_X4_priceOf_27 {X : g_X (Int32 × g_St)} (C : g_C X cX4_priceOf RX4 wsX4_priceOf rm_m_X4_priceOf 4) (q : g_qI X) (hA : g_ag L_m_X4_priceOf (g_n X) (g_T X)) (k4 : Int32 → Int32 → Int32 → g_St → Option (Int32 × g_St)) (hk4 : ∀ (x1 : Int32) (x2 : Int32) (x3 : Int32) (σ : g_St), G X 4 [(0, .ref (g_b X + 16)), (1, .int x1), (2, .int x2), (3, .int x3)] [] σ (k4 x1 x2 x3 σ)) (N : Nat) (x1 : Int32) (x2 : Int32) (x3 : Int32) (σ : g_St) : G X 27 [(0, .ref (g_b X + 16)), (1, .int x1), (2, .int x2), (3, .int x3)] [] σ (m_X4_priceOf_27 k4 N x1 x2 x3 σ) := by
  unfold m_X4_priceOf_27
  refine G_iinc C dX4_priceOf_27 3 rfl (v := (x3 + (1 : Int32))) (by rfl) rfl (lv' := [(3, .int (x3 + (1 : Int32))), (0, .ref (g_b X + 16)), (1, .int x1), (2, .int x2)]) rfl ?_
  refine G_ltv (fun v => [(3, .int v), (0, .ref (g_b X + 16)), (1, .int x1), (2, .int x2)]) (fun v1 => ?_)
  refine G_goto C dX4_priceOf_30 (tgt := 4) (by decide) ?_
  exact G_sub (hk4 x1 x2 v1 σ) [1, 2, 3, 0] rfl
set_option maxHeartbeats 4000000 in
set_option maxRecDepth 100000 in
theorem w_m_X4_priceOf_4 {X : g_X (Int32 × g_St)} (C : g_C X cX4_priceOf RX4 wsX4_priceOf rm_m_X4_priceOf 4) (q : g_qI X) (hA : g_ag L_m_X4_priceOf (g_n X) (g_T X)) (N : Nat) : ∀ (fu : Nat) (x1 : Int32) (x2 : Int32) (x3 : Int32) (σ : g_St), G X 4 [(0, .ref (g_b X + 16)), (1, .int x1), (2, .int x2), (3, .int x3)] [] σ (m_X4_priceOf_4 N fu x1 x2 x3 σ) := by
  have t16 := g_ag_at hA (c := 16) rfl tc16
  have t21 := g_ag_at hA (c := 21) rfl tc21
  intro fu
  induction fu with
  | zero => intro x1 x2 x3 σ; exact G_none
  | succ fu ih =>
    intro x1 x2 x3 σ
    unfold m_X4_priceOf_4
    refine G_iload_n C dX4_priceOf_4 rfl 3 rfl ?_
    refine G_bipush C dX4_priceOf_5 (v := 8) (by decide +kernel) ?_
    refine G_icmp_ge C dX4_priceOf_7 (tgt := 33) (by decide) (fun c1 => ?_) (fun c1 => ?_)
    · refine G_iload_n C dX4_priceOf_33 rfl 2 rfl ?_
      exact G_iret C q dX4_priceOf_34
    · refine G_iload_n C dX4_priceOf_10 rfl 1 rfl ?_
      refine G_iload_n C dX4_priceOf_11 rfl 3 rfl ?_
      refine G_callI (rest := []) (fun a ha => g_runSN C (nargs := 2) (As := [.int x1, .int x3]) (rest := []) (host := "BirthdayLot") gX4_priceOf_X10_holds_n47 rfl n_X4_priceOf_47 w_X4_priceOf_47 (by decide +kernel) rfl rfl rfl dX4_priceOf_12 (k_m_X10_holds X.1.2.1 X.2.1 (g_n X) (g_T X) (g_ag_sub hA (by decide +kernel)) x1 x3 σ a ha)) (fun q2 => ?_)
      refine G_if_eq C dX4_priceOf_15 (tgt := 27) (by decide) (fun c3 => ?_) (fun c3 => ?_)
      · exact w_m_X4_priceOf_27 C q hA (m_X4_priceOf_4 N fu) ih N x1 x2 x3 q2.2
      · refine G_iload_n C dX4_priceOf_18 rfl 2 rfl ?_
        refine G_aload_n C dX4_priceOf_19 rfl 0 rfl ?_
        refine G_getR C f_X4_priceOf_24 t16 rfl dX4_priceOf_20 ?_
        refine G_iload_n C dX4_priceOf_23 rfl 3 rfl ?_
        refine G_chk (fun h4 => ?_)
        refine G_ald C t21 h4 dX4_priceOf_24 ?_
        refine G_iadd C dX4_priceOf_25 ?_
        refine G_lti (fun v5 => ?_)
        refine G_istore_n C dX4_priceOf_26 rfl rfl (lv' := [(2, .int v5), (0, .ref (g_b X + 16)), (1, .int x1), (3, .int x3)]) rfl ?_
        exact G_sub (w_m_X4_priceOf_27 C q hA (m_X4_priceOf_4 N fu) ih N x1 v5 x3 q2.2) [1, 2, 0, 3] rfl
set_option maxHeartbeats 4000000 in
set_option maxRecDepth 100000 in
theorem w_m_X4_priceOf_0 {X : g_X (Int32 × g_St)} (C : g_C X cX4_priceOf RX4 wsX4_priceOf rm_m_X4_priceOf 4) (q : g_qI X) (hA : g_ag L_m_X4_priceOf (g_n X) (g_T X)) (N : Nat) (x1 : Int32) (σ : g_St) : G X 0 [(0, .ref (g_b X + 16)), (1, .int x1)] [] σ (m_X4_priceOf N x1 σ) := by
  unfold m_X4_priceOf
  refine G_iconst C dX4_priceOf_0 (v := 0) (by decide +kernel) ?_
  refine G_istore_n C dX4_priceOf_1 rfl rfl (lv' := [(2, .int (0 : Int32)), (0, .ref (g_b X + 16)), (1, .int x1)]) rfl ?_
  refine G_iconst C dX4_priceOf_2 (v := 0) (by decide +kernel) ?_
  refine G_istore_n C dX4_priceOf_3 rfl rfl (lv' := [(3, .int (0 : Int32)), (2, .int (0 : Int32)), (0, .ref (g_b X + 16)), (1, .int x1)]) rfl ?_
  exact G_sub (w_m_X4_priceOf_4 C q hA N N x1 (0 : Int32) (0 : Int32) σ) [2, 3, 1, 0] rfl
theorem k_m_X4_priceOf (l : Launch) (E : g_E) (n : Nat) (T : Nat → g_Sh) (hA : g_ag L_m_X4_priceOf n T) (N : Nat) (x1 : Int32) (σ : g_St) (a : Int32 × g_St) (h : m_X4_priceOf N x1 σ = some a) : Met l yX4_priceOf wsX4_priceOf rm_m_X4_priceOf (g_Pc E n T [.ref (E.2.1 + 16), .int x1] σ) (g_Qi E n T a) 0 0 (g_A E) :=
  g_metI (by decide +kernel) rfl rfl (Nat.le_of_ble_eq_true rfl) (fun M Qf C q => by rw [← h]; exact w_m_X4_priceOf_0 C q hA N x1 σ)
def L_m_X4_celebrate : List Nat := [16, 17, 18]
abbrev rm_m_X4_celebrate : Room := { frames := 2, cells := 0, slots := 0, locals := 50 }
theorem f_X4_celebrate_15 : g_Fld wsX4_celebrate RX4 15 4 1 := ⟨RX4, TX4, 8, rfl, by decide +kernel, by decide, by decide +kernel⟩
theorem f_X4_celebrate_9 : g_Fld wsX4_celebrate RX4 9 4 0 := ⟨RX4, TX4, 8, rfl, by decide +kernel, by decide, by decide +kernel⟩
theorem n_X4_celebrate_51 : Cond.methodLinkNest RX4 51 yX10_older "BirthdayLot" ∈ g_nest := by decide +kernel
theorem w_X4_celebrate_51 : Cond.static yX10_older ∈ wsX4_celebrate ∧ Cond.initialized (MethodName.cls yX10_older) ∈ wsX4_celebrate := ⟨by decide +kernel, by decide +kernel⟩
theorem w_X4_celebrate_54 : g_mw wsX4_celebrate RX4 54 Lib.Math.min.name Lib.Math.min.code 2 := ⟨by decide +kernel, by decide +kernel, by decide +kernel, by decide +kernel⟩
set_option maxHeartbeats 4000000 in
set_option maxRecDepth 100000 in
theorem w_m_X4_celebrate_0 {X : g_X (g_St)} (C : g_C X cX4_celebrate RX4 wsX4_celebrate rm_m_X4_celebrate 2) (q : g_qV X) (hA : g_ag L_m_X4_celebrate (g_n X) (g_T X)) (x1 : Int32) (σ : g_St) : G X 0 [(0, .ref (g_b X + 16)), (1, .int x1)] [] σ (m_X4_celebrate x1 σ) := by
  have t16 := g_ag_at hA (c := 16) rfl tc16
  have t17 := g_ag_at hA (c := 17) rfl tc17
  have t18 := g_ag_at hA (c := 18) rfl tc18
  unfold m_X4_celebrate
  refine G_iload_n C dX4_celebrate_0 rfl 1 rfl ?_
  refine G_if_lt C dX4_celebrate_1 (tgt := 10) (by decide) (fun c1 => ?_) (fun c1 => ?_)
  · exact G_vret C q dX4_celebrate_10
  · refine G_iload_n C dX4_celebrate_4 rfl 1 rfl ?_
    refine G_bipush C dX4_celebrate_5 (v := 6) (by decide +kernel) ?_
    refine G_icmp_lt C dX4_celebrate_7 (tgt := 11) (by decide) (fun c2 => ?_) (fun c2 => ?_)
    · refine G_aload_n C dX4_celebrate_11 rfl 0 rfl ?_
      refine G_getR C f_X4_celebrate_9 t16 rfl dX4_celebrate_12 ?_
      refine G_iload_n C dX4_celebrate_15 rfl 1 rfl ?_
      refine G_aload_n C dX4_celebrate_16 rfl 0 rfl ?_
      refine G_getR C f_X4_celebrate_9 t16 rfl dX4_celebrate_17 ?_
      refine G_iload_n C dX4_celebrate_20 rfl 1 rfl ?_
      refine G_chk (fun h3 => ?_)
      refine G_ald C t17 h3 dX4_celebrate_21 ?_
      refine G_callI (rest := [.int x1, .ref (g_b X + 17)]) (fun a ha => g_runSN C (nargs := 1) (As := [.int (σ.1 17 x1.toNatClampNeg)]) (rest := [.int x1, .ref (g_b X + 17)]) (host := "BirthdayLot") gX4_celebrate_X10_older_n51 rfl n_X4_celebrate_51 w_X4_celebrate_51 (by decide +kernel) rfl rfl rfl dX4_celebrate_22 (k_m_X10_older X.1.2.1 X.2.1 (g_n X) (g_T X) (g_ag_sub hA (by decide +kernel)) (σ.1 17 x1.toNatClampNeg) σ a ha)) (fun q4 => ?_)
      refine G_chk (fun h5 => ?_)
      refine G_ast C t17 h5 dX4_celebrate_25 ?_
      refine G_lts (fun σ6 => ?_)
      refine G_aload_n C dX4_celebrate_26 rfl 0 rfl ?_
      refine G_getR C f_X4_celebrate_15 t16 rfl dX4_celebrate_27 ?_
      refine G_iload_n C dX4_celebrate_30 rfl 1 rfl ?_
      refine G_sipush C dX4_celebrate_31 (v := 9999) (by decide +kernel) ?_
      refine G_aload_n C dX4_celebrate_34 rfl 0 rfl ?_
      refine G_getR C f_X4_celebrate_15 t16 rfl dX4_celebrate_35 ?_
      refine G_iload_n C dX4_celebrate_38 rfl 1 rfl ?_
      refine G_chk (fun h7 => ?_)
      refine G_ald C t18 h7 dX4_celebrate_39 ?_
      refine G_aload_n C dX4_celebrate_40 rfl 0 rfl ?_
      refine G_getR C f_X4_celebrate_9 t16 rfl dX4_celebrate_41 ?_
      refine G_iload_n C dX4_celebrate_44 rfl 1 rfl ?_
      refine G_chk (fun h8 => ?_)
      refine G_ald C t17 h8 dX4_celebrate_45 ?_
      refine G_bipush C dX4_celebrate_46 (v := 10) (by decide +kernel) ?_
      refine G_idiv C dX4_celebrate_48 (by decide) ?_
      refine G_iadd C dX4_celebrate_49 ?_
      refine G_iconst C dX4_celebrate_50 (v := 1) (by decide +kernel) ?_
      refine G_iadd C dX4_celebrate_51 ?_
      refine G_mmin C w_X4_celebrate_54 rfl dX4_celebrate_52 ?_
      refine G_chk (fun h9 => ?_)
      refine G_ast C t18 h9 dX4_celebrate_55 ?_
      refine G_lts (fun σ10 => ?_)
      exact G_vret C q dX4_celebrate_56
    · exact G_vret C q dX4_celebrate_10
theorem k_m_X4_celebrate (l : Launch) (E : g_E) (n : Nat) (T : Nat → g_Sh) (hA : g_ag L_m_X4_celebrate n T) (x1 : Int32) (σ : g_St) (a : g_St) (h : m_X4_celebrate x1 σ = some a) : Met l yX4_celebrate wsX4_celebrate rm_m_X4_celebrate (g_Pc E n T [.ref (E.2.1 + 16), .int x1] σ) (g_Qv E n T a) 0 0 (g_A E) :=
  g_metV (by decide +kernel) rfl rfl (Nat.le_of_ble_eq_true rfl) (fun M Qf C q => by rw [← h]; exact w_m_X4_celebrate_0 C q hA x1 σ)
def L_m_X4_passDraw : List Nat := [13, 16]
abbrev rm_m_X4_passDraw : Room := { frames := 3, cells := 0, slots := 0, locals := 68 }
theorem f_X4_passDraw_27 : g_Fld wsX4_passDraw RX4 27 4 5 := ⟨RX4, TX4, 8, rfl, by decide +kernel, by decide, by decide +kernel⟩
theorem f_X4_passDraw_31 : g_Fld wsX4_passDraw RX4 31 4 6 := ⟨RX4, TX4, 8, rfl, by decide +kernel, by decide, by decide +kernel⟩
theorem f_X4_passDraw_34 : g_Fld wsX4_passDraw RX4 34 4 7 := ⟨RX4, TX4, 8, rfl, by decide +kernel, by decide, by decide +kernel⟩
theorem p_X4_passDraw_27 : g_FldP wsX4_passDraw RX4 27 4 5 .int := ⟨RX4, TX4, 8, tyX4, rfl, by decide +kernel, by decide, by decide +kernel, tyX4_ok, nmX4, rfl, by decide +kernel⟩
theorem p_X4_passDraw_31 : g_FldP wsX4_passDraw RX4 31 4 6 .int := ⟨RX4, TX4, 8, tyX4, rfl, by decide +kernel, by decide, by decide +kernel, tyX4_ok, nmX4, rfl, by decide +kernel⟩
theorem p_X4_passDraw_34 : g_FldP wsX4_passDraw RX4 34 4 7 .int := ⟨RX4, TX4, 8, tyX4, rfl, by decide +kernel, by decide, by decide +kernel, tyX4_ok, nmX4, rfl, by decide +kernel⟩
set_option maxHeartbeats 4000000 in
set_option maxRecDepth 100000 in
theorem w_m_X4_passDraw_28 {X : g_X (g_St)} (C : g_C X cX4_passDraw RX4 wsX4_passDraw rm_m_X4_passDraw 4) (q : g_qV X) (hA : g_ag L_m_X4_passDraw (g_n X) (g_T X)) (x2 : Int32) (x3 : Int32) (σ : g_St) : G X 28 [(0, .ref (g_b X + 16)), (1, .ref (g_b X + 13)), (2, .int x2), (3, .int x3)] [] σ (m_X4_passDraw_28 x2 x3 σ) := by
  have t13 := g_ag_at hA (c := 13) rfl tc13
  have t16 := g_ag_at hA (c := 16) rfl tc16
  unfold m_X4_passDraw_28
  refine G_aload_n C dX4_passDraw_28 rfl 0 rfl ?_
  refine G_aload_n C dX4_passDraw_29 rfl 1 rfl ?_
  refine G_iload_n C dX4_passDraw_30 rfl 3 rfl ?_
  refine G_aload_n C dX4_passDraw_31 rfl 0 rfl ?_
  refine G_getI C f_X4_passDraw_34 t16 rfl dX4_passDraw_32 ?_
  refine G_iload_n C dX4_passDraw_35 rfl 2 rfl ?_
  refine G_callI (rest := [.ref (g_b X + 16)]) (fun a ha => g_runV C (nargs := 3) (As := [.int x3, .int (σ.1 16 7), .int x2]) (rest := [.ref (g_b X + 16)]) gX4_passDraw_X7_drumAfter rfl (by decide +kernel) rfl t13 rfl rfl rfl rfl dX4_passDraw_36 (k_m_X7_drumAfter X.1.2.1 X.2.1 (g_n X) (g_T X) (g_ag_sub hA (by decide +kernel)) x3 (σ.1 16 7) x2 σ a ha)) (fun q1 => ?_)
  refine G_putI C p_X4_passDraw_27 t16 rfl rfl rfl dX4_passDraw_39 ?_
  refine G_lts (fun σ2 => ?_)
  refine G_aload_n C dX4_passDraw_42 rfl 0 rfl ?_
  refine G_aload_n C dX4_passDraw_43 rfl 1 rfl ?_
  refine G_iload_n C dX4_passDraw_44 rfl 3 rfl ?_
  refine G_aload_n C dX4_passDraw_45 rfl 0 rfl ?_
  refine G_getI C f_X4_passDraw_34 t16 rfl dX4_passDraw_46 ?_
  refine G_iload_n C dX4_passDraw_49 rfl 2 rfl ?_
  refine G_callI (rest := [.ref (g_b X + 16)]) (fun a ha => g_runV C (nargs := 3) (As := [.int x3, .int (σ2.1 16 7), .int x2]) (rest := [.ref (g_b X + 16)]) gX4_passDraw_X7_drawsAfter rfl (by decide +kernel) rfl t13 rfl rfl rfl rfl dX4_passDraw_50 (k_m_X7_drawsAfter X.1.2.1 X.2.1 (g_n X) (g_T X) (g_ag_sub hA (by decide +kernel)) x3 (σ2.1 16 7) x2 σ2 a ha)) (fun q3 => ?_)
  refine G_putI C p_X4_passDraw_34 t16 rfl rfl rfl dX4_passDraw_53 ?_
  refine G_lts (fun σ4 => ?_)
  exact G_vret C q dX4_passDraw_56
set_option maxHeartbeats 4000000 in
set_option maxRecDepth 100000 in
theorem w_m_X4_passDraw_0 {X : g_X (g_St)} (C : g_C X cX4_passDraw RX4 wsX4_passDraw rm_m_X4_passDraw 4) (q : g_qV X) (hA : g_ag L_m_X4_passDraw (g_n X) (g_T X)) (x2 : Int32) (σ : g_St) : G X 0 [(0, .ref (g_b X + 16)), (1, .ref (g_b X + 13)), (2, .int x2)] [] σ (m_X4_passDraw x2 σ) := by
  have t13 := g_ag_at hA (c := 13) rfl tc13
  have t16 := g_ag_at hA (c := 16) rfl tc16
  unfold m_X4_passDraw
  refine G_aload_n C dX4_passDraw_0 rfl 0 rfl ?_
  refine G_getI C f_X4_passDraw_27 t16 rfl dX4_passDraw_1 ?_
  refine G_lti (fun v1 => ?_)
  refine G_istore_n C dX4_passDraw_4 rfl rfl (lv' := [(3, .int v1), (0, .ref (g_b X + 16)), (1, .ref (g_b X + 13)), (2, .int x2)]) rfl ?_
  refine G_aload_n C dX4_passDraw_5 rfl 2 rfl ?_
  refine G_iload_n C dX4_passDraw_6 rfl 0 rfl ?_
  refine G_aload_n C dX4_passDraw_7 rfl 1 rfl ?_
  refine G_getI C f_X4_passDraw_34 t16 rfl dX4_passDraw_8 ?_
  refine G_iload_n C dX4_passDraw_11 rfl 3 rfl ?_
  refine G_callI (rest := []) (fun a ha => g_runV C (nargs := 3) (As := [.int v1, .int (σ.1 16 7), .int x2]) (rest := []) gX4_passDraw_X7_endsYear rfl (by decide +kernel) rfl t13 rfl rfl rfl rfl dX4_passDraw_12 (k_m_X7_endsYear X.1.2.1 X.2.1 (g_n X) (g_T X) (g_ag_sub hA (by decide +kernel)) v1 (σ.1 16 7) x2 σ a ha)) (fun q2 => ?_)
  refine G_if_eq C dX4_passDraw_15 (tgt := 28) (by decide) (fun c3 => ?_) (fun c3 => ?_)
  · exact G_sub (w_m_X4_passDraw_28 C q hA x2 v1 q2.2) [1, 2, 3, 0] rfl
  · refine G_aload_n C dX4_passDraw_18 rfl 1 rfl ?_
    refine G_dup C dX4_passDraw_19 rfl ?_
    refine G_getI C f_X4_passDraw_31 t16 rfl dX4_passDraw_20 ?_
    refine G_iconst C dX4_passDraw_23 (v := 1) (by decide +kernel) ?_
    refine G_iadd C dX4_passDraw_24 ?_
    refine G_putI C p_X4_passDraw_31 t16 rfl rfl rfl dX4_passDraw_25 ?_
    refine G_lts (fun σ4 => ?_)
    exact G_sub (w_m_X4_passDraw_28 C q hA x2 v1 σ4) [1, 2, 3, 0] rfl
theorem k_m_X4_passDraw (l : Launch) (E : g_E) (n : Nat) (T : Nat → g_Sh) (hA : g_ag L_m_X4_passDraw n T) (x2 : Int32) (σ : g_St) (a : g_St) (h : m_X4_passDraw x2 σ = some a) : Met l yX4_passDraw wsX4_passDraw rm_m_X4_passDraw (g_Pc E n T [.ref (E.2.1 + 16), .ref (E.2.1 + 13), .int x2] σ) (g_Qv E n T a) 0 0 (g_A E) :=
  g_metV (by decide +kernel) rfl rfl (Nat.le_of_ble_eq_true rfl) (fun M Qf C q => by rw [← h]; exact w_m_X4_passDraw_0 C q hA x2 σ)
def L_m_X5_clear : List Nat := [22]
abbrev rm_m_X5_clear : Room := { frames := 0, cells := 0, slots := 0, locals := 0 }
theorem p_X5_clear_18 : g_FldP wsX5_clear RX5 18 5 1 .int := ⟨RX5, TX5, 3, tyX5, rfl, by decide +kernel, by decide, by decide +kernel, tyX5_ok, nmX5, rfl, by decide +kernel⟩
theorem p_X5_clear_22 : g_FldP wsX5_clear RX5 22 5 2 .int := ⟨RX5, TX5, 3, tyX5, rfl, by decide +kernel, by decide, by decide +kernel, tyX5_ok, nmX5, rfl, by decide +kernel⟩
set_option maxHeartbeats 4000000 in
set_option maxRecDepth 100000 in
theorem w_m_X5_clear_0 {X : g_X (g_St)} (C : g_C X cX5_clear RX5 wsX5_clear rm_m_X5_clear 1) (q : g_qV X) (hA : g_ag L_m_X5_clear (g_n X) (g_T X)) (σ : g_St) : G X 0 [(0, .ref (g_b X + 22))] [] σ (m_X5_clear σ) := by
  have t22 := g_ag_at hA (c := 22) rfl tc22
  unfold m_X5_clear
  refine G_aload_n C dX5_clear_0 rfl 0 rfl ?_
  refine G_iconst C dX5_clear_1 (v := 0) (by decide +kernel) ?_
  refine G_putI C p_X5_clear_18 t22 rfl rfl rfl dX5_clear_2 ?_
  refine G_lts (fun σ1 => ?_)
  refine G_aload_n C dX5_clear_5 rfl 0 rfl ?_
  refine G_iconst C dX5_clear_6 (v := 0) (by decide +kernel) ?_
  refine G_putI C p_X5_clear_22 t22 rfl rfl rfl dX5_clear_7 ?_
  refine G_lts (fun σ2 => ?_)
  exact G_vret C q dX5_clear_10
theorem k_m_X5_clear (l : Launch) (E : g_E) (n : Nat) (T : Nat → g_Sh) (hA : g_ag L_m_X5_clear n T) (σ : g_St) (a : g_St) (h : m_X5_clear σ = some a) : Met l yX5_clear wsX5_clear rm_m_X5_clear (g_Pc E n T [.ref (E.2.1 + 22)] σ) (g_Qv E n T a) 0 0 (g_A E) :=
  g_metV (by decide +kernel) rfl rfl (Nat.le_of_ble_eq_true rfl) (fun M Qf C q => by rw [← h]; exact w_m_X5_clear_0 C q hA σ)
def L_m_X5_add : List Nat := [16, 17, 18, 19, 20, 21, 22, 23, 24, 25, 26, 27, 28, 29, 30, 31, 32, 33, 34, 35, 36, 37, 38, 39, 40, 41, 42, 43, 44, 45, 46, 47, 48, 49, 50, 51, 52, 53]
abbrev rm_m_X5_add : Room := { frames := 2, cells := 0, slots := 0, locals := 82 }
theorem f_X5_add_13 : g_Fld wsX5_add RX5 13 5 0 := ⟨RX5, TX5, 3, rfl, by decide +kernel, by decide, by decide +kernel⟩
theorem f_X5_add_18 : g_Fld wsX5_add RX5 18 5 1 := ⟨RX5, TX5, 3, rfl, by decide +kernel, by decide, by decide +kernel⟩
theorem f_X5_add_22 : g_Fld wsX5_add RX5 22 5 2 := ⟨RX5, TX5, 3, rfl, by decide +kernel, by decide, by decide +kernel⟩
theorem p_X5_add_18 : g_FldP wsX5_add RX5 18 5 1 .int := ⟨RX5, TX5, 3, tyX5, rfl, by decide +kernel, by decide, by decide +kernel, tyX5_ok, nmX5, rfl, by decide +kernel⟩
theorem p_X5_add_22 : g_FldP wsX5_add RX5 22 5 2 .int := ⟨RX5, TX5, 3, tyX5, rfl, by decide +kernel, by decide, by decide +kernel, tyX5_ok, nmX5, rfl, by decide +kernel⟩
set_option maxHeartbeats 4000000 in
set_option maxRecDepth 100000 in
theorem w_m_X5_add_0 {X : g_X (g_St)} (C : g_C X cX5_add RX5 wsX5_add rm_m_X5_add 2) (q : g_qV X) (hA : g_ag L_m_X5_add (g_n X) (g_T X)) (σ : g_St) : G X 0 [(0, .ref (g_b X + 22)), (1, .ref (g_b X + 16))] [] σ (m_X5_add σ) := by
  have t16 := g_ag_at hA (c := 16) rfl tc16
  have t22 := g_ag_at hA (c := 22) rfl tc22
  have t23 := g_ag_at hA (c := 23) rfl tc23
  unfold m_X5_add
  refine G_aload_n C dX5_add_0 rfl 1 rfl ?_
  refine G_aload_n C dX5_add_1 rfl 0 rfl ?_
  refine G_getR C f_X5_add_13 t22 rfl dX5_add_2 ?_
  refine G_aload_n C dX5_add_5 rfl 0 rfl ?_
  refine G_getI C f_X5_add_18 t22 rfl dX5_add_6 ?_
  refine G_chk (fun h1 => ?_)
  refine G_aald C t23 h1 dX5_add_9 ?_
  refine G_callV (rest := []) (fun a ha => g_runV C (nargs := 1) (As := [.ref (g_b X + (24 + (σ.1 22 1).toNatClampNeg))]) (rest := []) gX5_add_X4_packInto rfl (by decide +kernel) rfl t16 rfl rfl rfl rfl dX5_add_10 (k_m_X4_packInto_R X.1.2.1 X.2.1 (g_n X) (g_T X) (g_ag_sub hA (by decide +kernel)) (24 + (σ.1 22 1).toNatClampNeg) (g_rowh hA (b0 := 24) (cnt := 30) (m := 39) (by decide +kernel) h1) σ a ha)) (fun σ3 => ?_)
  refine G_aload_n C dX5_add_13 rfl 0 rfl ?_
  refine G_aload_n C dX5_add_14 rfl 0 rfl ?_
  refine G_getI C f_X5_add_18 t22 rfl dX5_add_15 ?_
  refine G_iconst C dX5_add_18 (v := 1) (by decide +kernel) ?_
  refine G_iadd C dX5_add_19 ?_
  refine G_bipush C dX5_add_20 (v := 30) (by decide +kernel) ?_
  refine G_irem C dX5_add_22 (by decide) ?_
  refine G_putI C p_X5_add_18 t22 rfl rfl rfl dX5_add_23 ?_
  refine G_lts (fun σ4 => ?_)
  refine G_aload_n C dX5_add_26 rfl 0 rfl ?_
  refine G_getI C f_X5_add_22 t22 rfl dX5_add_27 ?_
  refine G_bipush C dX5_add_30 (v := 30) (by decide +kernel) ?_
  refine G_icmp_ge C dX5_add_32 (tgt := 45) (by decide) (fun c5 => ?_) (fun c5 => ?_)
  · exact G_vret C q dX5_add_45
  · refine G_aload_n C dX5_add_35 rfl 0 rfl ?_
    refine G_dup C dX5_add_36 rfl ?_
    refine G_getI C f_X5_add_22 t22 rfl dX5_add_37 ?_
    refine G_iconst C dX5_add_40 (v := 1) (by decide +kernel) ?_
    refine G_iadd C dX5_add_41 ?_
    refine G_putI C p_X5_add_22 t22 rfl rfl rfl dX5_add_42 ?_
    refine G_lts (fun σ6 => ?_)
    exact G_vret C q dX5_add_45
theorem k_m_X5_add (l : Launch) (E : g_E) (n : Nat) (T : Nat → g_Sh) (hA : g_ag L_m_X5_add n T) (σ : g_St) (a : g_St) (h : m_X5_add σ = some a) : Met l yX5_add wsX5_add rm_m_X5_add (g_Pc E n T [.ref (E.2.1 + 22), .ref (E.2.1 + 16)] σ) (g_Qv E n T a) 0 0 (g_A E) :=
  g_metV (by decide +kernel) rfl rfl (Nat.le_of_ble_eq_true rfl) (fun M Qf C q => by rw [← h]; exact w_m_X5_add_0 C q hA σ)
