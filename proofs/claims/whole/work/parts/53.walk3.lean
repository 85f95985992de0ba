def L_m_X7_ticketAt : List Nat := [13, 14]
abbrev rm_m_X7_ticketAt : Room := { frames := 1, cells := 0, slots := 0, locals := 21 }
theorem f_X7_ticketAt_25 : g_Fld wsX7_ticketAt RX7 25 7 3 := ⟨RX7, TX7, 6, rfl, by decide +kernel, by decide, by decide +kernel⟩
theorem f_X7_ticketAt_9 : g_Fld wsX7_ticketAt RX7 9 7 0 := ⟨RX7, TX7, 6, rfl, by decide +kernel, by decide, by decide +kernel⟩
theorem n_X7_ticketAt_41 : Cond.methodLinkNest RX7 41 yX10_holds "BirthdayLot" ∈ g_nest := by decide +kernel
theorem w_X7_ticketAt_41 : Cond.static yX10_holds ∈ wsX7_ticketAt ∧ Cond.initialized (MethodName.cls yX10_holds) ∈ wsX7_ticketAt := ⟨by decide +kernel, by decide +kernel⟩
set_option maxHeartbeats 4000000 in
set_option maxRecDepth 100000 in
theorem w_m_X7_ticketAt_43 {X : g_X (Int32 × g_St)} (C : g_C X cX7_ticketAt RX7 wsX7_ticketAt rm_m_X7_ticketAt 5) (q : g_qI X) (hA : g_ag L_m_X7_ticketAt (g_n X) (g_T X)) (k5 : Int32 → Int32 → Int32 → g_St → Option (Int32 × g_St)) (hk5 : ∀ (x1 : Int32) (x3 : Int32) (x4 : Int32) (σ : g_St), G X 5 [(0, .ref (g_b X + 13)), (1, .int x1), (3, .int x3), (4, .int x4)] [] σ (k5 x1 x3 x4 σ)) (N : Nat) (x1 : Int32) (x3 : Int32) (x4 : Int32) (σ : g_St) : G X 43 [(0, .ref (g_b X + 13)), (1, .int x1), (3, .int x3), (4, .int x4)] [] σ (m_X7_ticketAt_43 k5 N x1 x3 x4 σ) := by
  unfold m_X7_ticketAt_43
  refine G_iinc C dX7_ticketAt_43 3 rfl (v := (x4 + (1 : Int32))) (by rfl) rfl (lv' := [(4, .int (x4 + (1 : Int32))), (0, .ref (g_b X + 13)), (1, .int x1), (3, .int x3)]) rfl ?_
  refine G_ltv (fun v => [(4, .int v), (0, .ref (g_b X + 13)), (1, .int x1), (3, .int x3)]) (fun v1 => ?_)
  refine G_goto C dX7_ticketAt_46 (tgt := 5) (by decide) ?_
  exact G_sub (hk5 x1 x3 v1 σ) [1, 2, 3, 0] rfl
set_option maxHeartbeats 4000000 in
set_option maxRecDepth 100000 in
theorem w_m_X7_ticketAt_5 {X : g_X (Int32 × g_St)} (C : g_C X cX7_ticketAt RX7 wsX7_ticketAt rm_m_X7_ticketAt 5) (q : g_qI X) (hA : g_ag L_m_X7_ticketAt (g_n X) (g_T X)) (N : Nat) : ∀ (fu : Nat) (x1 : Int32) (x3 : Int32) (x4 : Int32) (σ : g_St), G X 5 [(0, .ref (g_b X + 13)), (1, .int x1), (3, .int x3), (4, .int x4)] [] σ (m_X7_ticketAt_5 N fu x1 x3 x4 σ) := by
  have t13 := g_ag_at hA (c := 13) rfl tc13
  have t14 := g_ag_at hA (c := 14) rfl tc14
  intro fu
  induction fu with
  | zero => intro x1 x3 x4 σ; exact G_none
  | succ fu ih =>
    intro x1 x3 x4 σ
    unfold m_X7_ticketAt_5
    refine G_iload C dX7_ticketAt_5 3 rfl ?_
    refine G_aload_n C dX7_ticketAt_7 rfl 0 rfl ?_
    refine G_getI C f_X7_ticketAt_25 t13 rfl dX7_ticketAt_8 ?_
    refine G_icmp_ge C dX7_ticketAt_11 (tgt := 49) (by decide) (fun c1 => ?_) (fun c1 => ?_)
    · refine G_iconst C dX7_ticketAt_49 (v := -1) (by decide +kernel) ?_
      exact G_iret C q dX7_ticketAt_50
    · refine G_iload_n C dX7_ticketAt_14 rfl 1 rfl ?_
      refine G_iload C dX7_ticketAt_15 3 rfl ?_
      refine G_callI (rest := []) (fun a ha => g_runSN C (nargs := 2) (As := [.int x1, .int x4]) (rest := []) (host := "BirthdayLot") gX7_ticketAt_X10_holds_n41 rfl n_X7_ticketAt_41 w_X7_ticketAt_41 (by decide +kernel) rfl rfl rfl dX7_ticketAt_17 (k_m_X10_holds X.1.2.1 X.2.1 (g_n X) (g_T X) (g_ag_sub hA (by decide +kernel)) x1 x4 σ a ha)) (fun q2 => ?_)
      refine G_if_ne C dX7_ticketAt_20 (tgt := 26) (by decide) (fun c3 => ?_) (fun c3 => ?_)
      · refine G_goto C dX7_ticketAt_23 (tgt := 43) (by decide) ?_
        exact w_m_X7_ticketAt_43 C q hA (m_X7_ticketAt_5 N fu) ih N x1 x3 x4 q2.2
      · refine G_iload_n C dX7_ticketAt_26 rfl 2 rfl ?_
        refine G_aload_n C dX7_ticketAt_27 rfl 0 rfl ?_
        refine G_getR C f_X7_ticketAt_9 t13 rfl dX7_ticketAt_28 ?_
        refine G_iload C dX7_ticketAt_31 3 rfl ?_
        refine G_chk (fun h4 => ?_)
        refine G_ald C t14 h4 dX7_ticketAt_33 ?_
        refine G_isub C dX7_ticketAt_34 ?_
        refine G_lti (fun v5 => ?_)
        refine G_istore_n C dX7_ticketAt_35 rfl rfl (lv' := [(3, .int v5), (0, .ref (g_b X + 13)), (1, .int x1), (4, .int x4)]) rfl ?_
        refine G_iload_n C dX7_ticketAt_36 rfl 0 rfl ?_
        refine G_if_ge C dX7_ticketAt_37 (tgt := 43) (by decide) (fun c6 => ?_) (fun c6 => ?_)
        · exact G_sub (w_m_X7_ticketAt_43 C q hA (m_X7_ticketAt_5 N fu) ih N x1 v5 x4 q2.2) [1, 2, 0, 3] rfl
        · refine G_iload C dX7_ticketAt_40 3 rfl ?_
          exact G_iret C q dX7_ticketAt_42
set_option maxHeartbeats 4000000 in
set_option maxRecDepth 100000 in
theorem w_m_X7_ticketAt_0 {X : g_X (Int32 × g_St)} (C : g_C X cX7_ticketAt RX7 wsX7_ticketAt rm_m_X7_ticketAt 5) (q : g_qI X) (hA : g_ag L_m_X7_ticketAt (g_n X) (g_T X)) (N : Nat) (x1 : Int32) (x2 : Int32) (σ : g_St) : G X 0 [(0, .ref (g_b X + 13)), (1, .int x1), (2, .int x2)] [] σ (m_X7_ticketAt N x1 x2 σ) := by
  unfold m_X7_ticketAt
  refine G_iload_n C dX7_ticketAt_0 rfl 2 rfl ?_
  refine G_istore_n C dX7_ticketAt_1 rfl rfl (lv' := [(3, .int x2), (0, .ref (g_b X + 13)), (1, .int x1), (2, .int x2)]) rfl ?_
  refine G_iconst C dX7_ticketAt_2 (v := 0) (by decide +kernel) ?_
  refine G_istore C dX7_ticketAt_3 rfl (lv' := [(4, .int (0 : Int32)), (3, .int x2), (0, .ref (g_b X + 13)), (1, .int x1), (2, .int x2)]) rfl ?_
  exact G_sub (w_m_X7_ticketAt_5 C q hA N N x1 x2 (0 : Int32) σ) [2, 3, 1, 0] rfl
theorem k_m_X7_ticketAt (l : Launch) (E : g_E) (n : Nat) (T : Nat → g_Sh) (hA : g_ag L_m_X7_ticketAt n T) (N : Nat) (x1 : Int32) (x2 : Int32) (σ : g_St) (a : Int32 × g_St) (h : m_X7_ticketAt N x1 x2 σ = some a) : Met l yX7_ticketAt wsX7_ticketAt rm_m_X7_ticketAt (g_Pc E n T [.ref (E.2.1 + 13), .int x1, .int x2] σ) (g_Qi E n T a) 0 0 (g_A E) :=
  g_metI (by decide +kernel) rfl rfl (Nat.le_of_ble_eq_true rfl) (fun M Qf C q => by rw [← h]; exact w_m_X7_ticketAt_0 C q hA N x1 x2 σ)
def L_m_X8_add : List Nat := [67, 68]
abbrev rm_m_X8_add : Room := { frames := 0, cells := 0, slots := 0, locals := 0 }
theorem f_X8_add_15 : g_Fld wsX8_add RX8 15 8 1 := ⟨RX8, TX8, 2, rfl, by decide +kernel, by decide, by decide +kernel⟩
theorem f_X8_add_9 : g_Fld wsX8_add RX8 9 8 0 := ⟨RX8, TX8, 2, rfl, by decide +kernel, by decide, by decide +kernel⟩
theorem p_X8_add_15 : g_FldP wsX8_add RX8 15 8 1 .int := ⟨RX8, TX8, 2, tyX8, rfl, by decide +kernel, by decide, by decide +kernel, tyX8_ok, nmX8, rfl, by decide +kernel⟩
set_option maxHeartbeats 4000000 in
set_option maxRecDepth 100000 in
theorem w_m_X8_add_0 {X : g_X (Int32 × g_St)} (C : g_C X cX8_add RX8 wsX8_add rm_m_X8_add 2) (q : g_qI X) (hA : g_ag L_m_X8_add (g_n X) (g_T X)) (x1 : Int32) (σ : g_St) : G X 0 [(0, .ref (g_b X + 67)), (1, .int x1)] [] σ (m_X8_add x1 σ) := by
  have t67 := g_ag_at hA (c := 67) rfl tc67
  have t68 := g_ag_at hA (c := 68) rfl tc68
  unfold m_X8_add
  refine G_aload_n C dX8_add_0 rfl 0 rfl ?_
  refine G_getI C f_X8_add_15 t67 rfl dX8_add_1 ?_
  refine G_bipush C dX8_add_4 (v := 8) (by decide +kernel) ?_
  refine G_icmp_ge C dX8_add_6 (tgt := 29) (by decide) (fun c1 => ?_) (fun c1 => ?_)
  · refine G_aload_n C dX8_add_29 rfl 0 rfl ?_
    refine G_getI C f_X8_add_15 t67 rfl dX8_add_30 ?_
    exact G_iret C q dX8_add_33
  · refine G_aload_n C dX8_add_9 rfl 0 rfl ?_
    refine G_getR C f_X8_add_9 t67 rfl dX8_add_10 ?_
    refine G_aload_n C dX8_add_13 rfl 0 rfl ?_
    refine G_getI C f_X8_add_15 t67 rfl dX8_add_14 ?_
    refine G_iload_n C dX8_add_17 rfl 1 rfl ?_
    refine G_chk (fun h2 => ?_)
    refine G_ast C t68 h2 dX8_add_18 ?_
    refine G_lts (fun σ3 => ?_)
    refine G_aload_n C dX8_add_19 rfl 0 rfl ?_
    refine G_dup C dX8_add_20 rfl ?_
    refine G_getI C f_X8_add_15 t67 rfl dX8_add_21 ?_
    refine G_iconst C dX8_add_24 (v := 1) (by decide +kernel) ?_
    refine G_iadd C dX8_add_25 ?_
    refine G_putI C p_X8_add_15 t67 rfl rfl rfl dX8_add_26 ?_
    refine G_lts (fun σ4 => ?_)
    refine G_aload_n C dX8_add_29 rfl 0 rfl ?_
    refine G_getI C f_X8_add_15 t67 rfl dX8_add_30 ?_
    exact G_iret C q dX8_add_33
theorem k_m_X8_add (l : Launch) (E : g_E) (n : Nat) (T : Nat → g_Sh) (hA : g_ag L_m_X8_add n T) (x1 : Int32) (σ : g_St) (a : Int32 × g_St) (h : m_X8_add x1 σ = some a) : Met l yX8_add wsX8_add rm_m_X8_add (g_Pc E n T [.ref (E.2.1 + 67), .int x1] σ) (g_Qi E n T a) 0 0 (g_A E) :=
  g_metI (by decide +kernel) rfl rfl (Nat.le_of_ble_eq_true rfl) (fun M Qf C q => by rw [← h]; exact w_m_X8_add_0 C q hA x1 σ)
def L_m_X8_guessWeight : List Nat := [13, 14, 67, 68]
abbrev rm_m_X8_guessWeight : Room := { frames := 2, cells := 0, slots := 0, locals := 44 }
theorem f_X8_guessWeight_15 : g_Fld wsX8_guessWeight RX8 15 8 1 := ⟨RX8, TX8, 2, rfl, by decide +kernel, by decide, by decide +kernel⟩
theorem f_X8_guessWeight_23 : g_Fld wsX8_guessWeight RX8 23 7 3 := ⟨RX7, TX7, 6, rfl, by decide +kernel, by decide, by decide +kernel⟩
theorem f_X8_guessWeight_40 : g_Fld wsX8_guessWeight RX8 40 7 0 := ⟨RX7, TX7, 6, rfl, by decide +kernel, by decide, by decide +kernel⟩
theorem f_X8_guessWeight_9 : g_Fld wsX8_guessWeight RX8 9 8 0 := ⟨RX8, TX8, 2, rfl, by decide +kernel, by decide, by decide +kernel⟩
theorem c_X8_guessWeight_43 : Cond.constantLong RX8 43 (1000000000) ∈ wsX8_guessWeight := by decide +kernel
set_option maxHeartbeats 4000000 in
set_option maxRecDepth 100000 in
theorem w_m_X8_guessWeight_101 {X : g_X (Int64 × g_St)} (C : g_C X cX8_guessWeight RX8 wsX8_guessWeight rm_m_X8_guessWeight 9) (q : g_qL X) (hA : g_ag L_m_X8_guessWeight (g_n X) (g_T X)) (k51 : Int32 → Int32 → Int64 → Int32 → g_St → Option (Int64 × g_St)) (hk51 : ∀ (x2 : Int32) (x4 : Int32) (x5 : Int64) (x7 : Int32) (σ : g_St), G X 51 [(0, .ref (g_b X + 67)), (1, .ref (g_b X + 13)), (2, .int x2), (4, .int x4), (5, .long x5), (7, .int x7)] [] σ (k51 x2 x4 x5 x7 σ)) (N : Nat) (x2 : Int32) (x4 : Int32) (x7 : Int32) (s0 : Int64) (s1 : Int32) (σ : g_St) : G X 101 [(0, .ref (g_b X + 67)), (1, .ref (g_b X + 13)), (2, .int x2), (4, .int x4), (7, .int x7)] [.int s1, .long s0] σ (m_X8_guessWeight_101 k51 N x2 x4 x7 s0 s1 σ) := by
  unfold m_X8_guessWeight_101
  refine G_i2l C dX8_guessWeight_101 ?_
  refine G_lmul C dX8_guessWeight_102 ?_
  refine G_iload C dX8_guessWeight_103 3 rfl ?_
  refine G_i2l C dX8_guessWeight_105 ?_
  refine G_chn (fun h1 => ?_)
  refine G_ldiv C dX8_guessWeight_106 h1 ?_
  refine G_ltl (fun v2 => ?_)
  refine G_lstore C dX8_guessWeight_107 rfl (lv' := [(5, .long v2), (0, .ref (g_b X + 67)), (1, .ref (g_b X + 13)), (2, .int x2), (4, .int x4), (7, .int x7)]) rfl ?_
  refine G_iinc C dX8_guessWeight_109 5 rfl (v := (x7 + (1 : Int32))) (by rfl) rfl (lv' := [(7, .int (x7 + (1 : Int32))), (5, .long v2), (0, .ref (g_b X + 67)), (1, .ref (g_b X + 13)), (2, .int x2), (4, .int x4)]) rfl ?_
  refine G_ltv (fun v => [(7, .int v), (5, .long v2), (0, .ref (g_b X + 67)), (1, .ref (g_b X + 13)), (2, .int x2), (4, .int x4)]) (fun v3 => ?_)
  refine G_goto C dX8_guessWeight_112 (tgt := 51) (by decide) ?_
  exact G_sub (hk51 x2 x4 v2 v3 σ) [2, 3, 4, 5, 1, 0] rfl
set_option maxHeartbeats 4000000 in
set_option maxRecDepth 100000 in
theorem w_m_X8_guessWeight_51 {X : g_X (Int64 × g_St)} (C : g_C X cX8_guessWeight RX8 wsX8_guessWeight rm_m_X8_guessWeight 9) (q : g_qL X) (hA : g_ag L_m_X8_guessWeight (g_n X) (g_T X)) (N : Nat) : ∀ (fu : Nat) (x2 : Int32) (x4 : Int32) (x5 : Int64) (x7 : Int32) (σ : g_St), G X 51 [(0, .ref (g_b X + 67)), (1, .ref (g_b X + 13)), (2, .int x2), (4, .int x4), (5, .long x5), (7, .int x7)] [] σ (m_X8_guessWeight_51 N fu x2 x4 x5 x7 σ) := by
  have t13 := g_ag_at hA (c := 13) rfl tc13
  have t14 := g_ag_at hA (c := 14) rfl tc14
  have t67 := g_ag_at hA (c := 67) rfl tc67
  have t68 := g_ag_at hA (c := 68) rfl tc68
  intro fu
  induction fu with
  | zero => intro x2 x4 x5 x7 σ; exact G_none
  | succ fu ih =>
    intro x2 x4 x5 x7 σ
    unfold m_X8_guessWeight_51
    refine G_iload C dX8_guessWeight_51 5 rfl ?_
    refine G_aload_n C dX8_guessWeight_53 rfl 0 rfl ?_
    refine G_getI C f_X8_guessWeight_15 t67 rfl dX8_guessWeight_54 ?_
    refine G_icmp_ge C dX8_guessWeight_57 (tgt := 115) (by decide) (fun c1 => ?_) (fun c1 => ?_)
    · refine G_lload C dX8_guessWeight_115 4 rfl ?_
      exact G_lret C q dX8_guessWeight_117
    · refine G_iload C dX8_guessWeight_60 3 rfl ?_
      refine G_if_le C dX8_guessWeight_62 (tgt := 115) (by decide) (fun c2 => ?_) (fun c2 => ?_)
      · refine G_lload C dX8_guessWeight_115 4 rfl ?_
        exact G_lret C q dX8_guessWeight_117
      · refine G_aload_n C dX8_guessWeight_65 rfl 1 rfl ?_
        refine G_getR C f_X8_guessWeight_40 t13 rfl dX8_guessWeight_66 ?_
        refine G_aload_n C dX8_guessWeight_69 rfl 0 rfl ?_
        refine G_getR C f_X8_guessWeight_9 t67 rfl dX8_guessWeight_70 ?_
        refine G_iload C dX8_guessWeight_73 5 rfl ?_
        refine G_chk (fun h3 => ?_)
        refine G_ald C t68 h3 dX8_guessWeight_75 ?_
        refine G_chk (fun h4 => ?_)
        refine G_ald C t14 h4 dX8_guessWeight_76 ?_
        refine G_lti (fun v5 => ?_)
        refine G_istore C dX8_guessWeight_77 rfl (lv' := [(8, .int v5), (0, .ref (g_b X + 67)), (1, .ref (g_b X + 13)), (2, .int x2), (4, .int x4), (5, .long x5), (7, .int x7)]) rfl ?_
        refine G_lload C dX8_guessWeight_79 5 rfl ?_
        refine G_aload_n C dX8_guessWeight_81 rfl 1 rfl ?_
        refine G_getR C f_X8_guessWeight_9 t67 rfl dX8_guessWeight_82 ?_
        refine G_iload C dX8_guessWeight_85 6 rfl ?_
        refine G_chk (fun h6 => ?_)
        refine G_ald C t68 h6 dX8_guessWeight_87 ?_
        refine G_iload_n C dX8_guessWeight_88 rfl 3 rfl ?_
        refine G_icmp_ne C dX8_guessWeight_89 (tgt := 99) (by decide) (fun c7 => ?_) (fun c7 => ?_)
        · refine G_iconst C dX8_guessWeight_92 (v := 2) (by decide +kernel) ?_
          refine G_iload C dX8_guessWeight_93 0 rfl ?_
          refine G_imul C dX8_guessWeight_95 ?_
          refine G_goto C dX8_guessWeight_96 (tgt := 101) (by decide) ?_
          exact G_sub (w_m_X8_guessWeight_101 C q hA (m_X8_guessWeight_51 N fu) ih N x2 x4 x7 x5 ((2 : Int32) * v5) σ) [1, 2, 3, 4, 6] rfl
        · refine G_iload C dX8_guessWeight_99 0 rfl ?_
          exact G_sub (w_m_X8_guessWeight_101 C q hA (m_X8_guessWeight_51 N fu) ih N x2 x4 x7 x5 v5 σ) [1, 2, 3, 4, 6] rfl
set_option maxHeartbeats 4000000 in
set_option maxRecDepth 100000 in
theorem w_m_X8_guessWeight_40 {X : g_X (Int64 × g_St)} (C : g_C X cX8_guessWeight RX8 wsX8_guessWeight rm_m_X8_guessWeight 9) (q : g_qL X) (hA : g_ag L_m_X8_guessWeight (g_n X) (g_T X)) (N : Nat) (x2 : Int32) (s0 : Int32) (s1 : Int32) (σ : g_St) : G X 40 [(0, .ref (g_b X + 67)), (1, .ref (g_b X + 13)), (2, .int x2)] [.int s1, .int s0] σ (m_X8_guessWeight_40 N x2 s0 s1 σ) := by
  unfold m_X8_guessWeight_40
  refine G_iadd C dX8_guessWeight_40 ?_
  refine G_lti (fun v1 => ?_)
  refine G_istore C dX8_guessWeight_41 rfl (lv' := [(4, .int v1), (0, .ref (g_b X + 67)), (1, .ref (g_b X + 13)), (2, .int x2)]) rfl ?_
  refine G_ldc2 C dX8_guessWeight_43 c_X8_guessWeight_43 ?_
  refine G_lstore C dX8_guessWeight_46 rfl (lv' := [(5, .long (1000000000 : Int64)), (4, .int v1), (0, .ref (g_b X + 67)), (1, .ref (g_b X + 13)), (2, .int x2)]) rfl ?_
  refine G_iconst C dX8_guessWeight_48 (v := 0) (by decide +kernel) ?_
  refine G_istore C dX8_guessWeight_49 rfl (lv' := [(7, .int (0 : Int32)), (5, .long (1000000000 : Int64)), (4, .int v1), (0, .ref (g_b X + 67)), (1, .ref (g_b X + 13)), (2, .int x2)]) rfl ?_
  exact G_sub (w_m_X8_guessWeight_51 C q hA N N x2 v1 (1000000000 : Int64) (0 : Int32) σ) [3, 4, 5, 2, 1, 0] rfl
set_option maxHeartbeats 4000000 in
set_option maxRecDepth 100000 in
theorem w_m_X8_guessWeight_17 {X : g_X (Int64 × g_St)} (C : g_C X cX8_guessWeight RX8 wsX8_guessWeight rm_m_X8_guessWeight 9) (q : g_qL X) (hA : g_ag L_m_X8_guessWeight (g_n X) (g_T X)) (N : Nat) (x2 : Int32) (s0 : Int32) (σ : g_St) : G X 17 [(0, .ref (g_b X + 67)), (1, .ref (g_b X + 13)), (2, .int x2)] [.int s0] σ (m_X8_guessWeight_17 N x2 s0 σ) := by
  have t13 := g_ag_at hA (c := 13) rfl tc13
  have t14 := g_ag_at hA (c := 14) rfl tc14
  unfold m_X8_guessWeight_17
  refine G_istore_n C dX8_guessWeight_17 rfl rfl (lv' := [(3, .int s0), (0, .ref (g_b X + 67)), (1, .ref (g_b X + 13)), (2, .int x2)]) rfl ?_
  refine G_aload_n C dX8_guessWeight_18 rfl 2 rfl ?_
  refine G_aload_n C dX8_guessWeight_19 rfl 2 rfl ?_
  refine G_callI (rest := [.ref (g_b X + 13)]) (fun a ha => g_runV C (nargs := 0) (As := []) (rest := [.ref (g_b X + 13)]) gX8_guessWeight_X7_everyTicket rfl (by decide +kernel) rfl t13 rfl rfl rfl rfl dX8_guessWeight_20 (k_m_X7_everyTicket X.1.2.1 X.2.1 (g_n X) (g_T X) (g_ag_sub hA (by decide +kernel)) σ a ha)) (fun q1 => ?_)
  refine G_callI (rest := []) (fun a ha => g_runV C (nargs := 1) (As := [.int q1.1]) (rest := []) gX8_guessWeight_X7_weightOf rfl (by decide +kernel) rfl t13 rfl rfl rfl rfl dX8_guessWeight_23 (k_m_X7_weightOf X.1.2.1 X.2.1 (g_n X) (g_T X) (g_ag_sub hA (by decide +kernel)) N q1.1 q1.2 a ha)) (fun q2 => ?_)
  refine G_iload_n C dX8_guessWeight_26 rfl 0 rfl ?_
  refine G_if_eq C dX8_guessWeight_27 (tgt := 39) (by decide) (fun c3 => ?_) (fun c3 => ?_)
  · refine G_iconst C dX8_guessWeight_39 (v := 0) (by decide +kernel) ?_
    exact G_sub (w_m_X8_guessWeight_40 C q hA N x2 q2.1 (0 : Int32) q2.2) [1, 2, 3] rfl
  · refine G_aload_n C dX8_guessWeight_30 rfl 2 rfl ?_
    refine G_getR C f_X8_guessWeight_40 t13 rfl dX8_guessWeight_31 ?_
    refine G_iload_n C dX8_guessWeight_34 rfl 3 rfl ?_
    refine G_chk (fun h4 => ?_)
    refine G_ald C t14 h4 dX8_guessWeight_35 ?_
    refine G_goto C dX8_guessWeight_36 (tgt := 40) (by decide) ?_
    exact G_sub (w_m_X8_guessWeight_40 C q hA N x2 q2.1 (q2.2.1 14 x2.toNatClampNeg) q2.2) [1, 2, 3] rfl
set_option maxHeartbeats 4000000 in
set_option maxRecDepth 100000 in
theorem w_m_X8_guessWeight_16 {X : g_X (Int64 × g_St)} (C : g_C X cX8_guessWeight RX8 wsX8_guessWeight rm_m_X8_guessWeight 9) (q : g_qL X) (hA : g_ag L_m_X8_guessWeight (g_n X) (g_T X)) (N : Nat) (x2 : Int32) (σ : g_St) : G X 16 [(0, .ref (g_b X + 67)), (1, .ref (g_b X + 13)), (2, .int x2)] [] σ (m_X8_guessWeight_16 N x2 σ) := by
  unfold m_X8_guessWeight_16
  refine G_iconst C dX8_guessWeight_16 (v := 0) (by decide +kernel) ?_
  exact w_m_X8_guessWeight_17 C q hA N x2 (0 : Int32) σ
set_option maxHeartbeats 4000000 in
set_option maxRecDepth 100000 in
theorem w_m_X8_guessWeight_0 {X : g_X (Int64 × g_St)} (C : g_C X cX8_guessWeight RX8 wsX8_guessWeight rm_m_X8_guessWeight 9) (q : g_qL X) (hA : g_ag L_m_X8_guessWeight (g_n X) (g_T X)) (N : Nat) (x2 : Int32) (σ : g_St) : G X 0 [(0, .ref (g_b X + 67)), (1, .ref (g_b X + 13)), (2, .int x2)] [] σ (m_X8_guessWeight N x2 σ) := by
  have t13 := g_ag_at hA (c := 13) rfl tc13
  unfold m_X8_guessWeight
  refine G_iload_n C dX8_guessWeight_0 rfl 2 rfl ?_
  refine G_if_lt C dX8_guessWeight_1 (tgt := 16) (by decide) (fun c1 => ?_) (fun c1 => ?_)
  · exact w_m_X8_guessWeight_16 C q hA N x2 σ
  · refine G_iload_n C dX8_guessWeight_4 rfl 2 rfl ?_
    refine G_aload_n C dX8_guessWeight_5 rfl 1 rfl ?_
    refine G_getI C f_X8_guessWeight_23 t13 rfl dX8_guessWeight_6 ?_
    refine G_icmp_ge C dX8_guessWeight_9 (tgt := 16) (by decide) (fun c2 => ?_) (fun c2 => ?_)
    · exact w_m_X8_guessWeight_16 C q hA N x2 σ
    · refine G_iconst C dX8_guessWeight_12 (v := 1) (by decide +kernel) ?_
      refine G_goto C dX8_guessWeight_13 (tgt := 17) (by decide) ?_
      exact w_m_X8_guessWeight_17 C q hA N x2 (1 : Int32) σ
theorem k_m_X8_guessWeight (l : Launch) (E : g_E) (n : Nat) (T : Nat → g_Sh) (hA : g_ag L_m_X8_guessWeight n T) (N : Nat) (x2 : Int32) (σ : g_St) (a : Int64 × g_St) (h : m_X8_guessWeight N x2 σ = some a) : Met l yX8_guessWeight wsX8_guessWeight rm_m_X8_guessWeight (g_Pc E n T [.ref (E.2.1 + 67), .ref (E.2.1 + 13), .int x2] σ) (g_Ql E n T a) 0 0 (g_A E) :=
  g_metL (by decide +kernel) rfl rfl (Nat.le_of_ble_eq_true rfl) (fun M Qf C q => by rw [← h]; exact w_m_X8_guessWeight_0 C q hA N x2 σ)
def L_m_X8_millionths : List Nat := [13, 14, 67, 68]
abbrev rm_m_X8_millionths : Room := { frames := 3, cells := 0, slots := 0, locals := 72 }
theorem f_X8_millionths_23 : g_Fld wsX8_millionths RX8 23 7 3 := ⟨RX7, TX7, 6, rfl, by decide +kernel, by decide, by decide +kernel⟩
theorem c_X8_millionths_28 : Cond.constantLong RX8 28 (1000000) ∈ wsX8_millionths := by decide +kernel
set_option maxHeartbeats 4000000 in
set_option maxRecDepth 100000 in
theorem w_m_X8_millionths_10 {X : g_X (Int32 × g_St)} (C : g_C X cX8_millionths RX8 wsX8_millionths rm_m_X8_millionths 6) (q : g_qI X) (hA : g_ag L_m_X8_millionths (g_n X) (g_T X)) (N : Nat) : ∀ (fu : Nat) (x2 : Int32) (x3 : Int64) (x5 : Int32) (σ : g_St), G X 10 [(0, .ref (g_b X + 67)), (1, .ref (g_b X + 13)), (2, .int x2), (3, .long x3), (5, .int x5)] [] σ (m_X8_millionths_10 N fu x2 x3 x5 σ) := by
  have t13 := g_ag_at hA (c := 13) rfl tc13
  have t67 := g_ag_at hA (c := 67) rfl tc67
  intro fu
  induction fu with
  | zero => intro x2 x3 x5 σ; exact G_none
  | succ fu ih =>
    intro x2 x3 x5 σ
    unfold m_X8_millionths_10
    refine G_iload C dX8_millionths_10 4 rfl ?_
    refine G_aload_n C dX8_millionths_12 rfl 1 rfl ?_
    refine G_getI C f_X8_millionths_23 t13 rfl dX8_millionths_13 ?_
    refine G_icmp_ge C dX8_millionths_16 (tgt := 35) (by decide) (fun c1 => ?_) (fun c1 => ?_)
    · refine G_lload_n C dX8_millionths_35 rfl 3 rfl ?_
      refine G_lconst C dX8_millionths_36 (v := 1) (by decide +kernel) ?_
      refine G_lcmp C dX8_millionths_37 ?_
      refine G_if_ge C dX8_millionths_38 (tgt := 43) (by decide) (fun c2 => ?_) (fun c2 => ?_)
      · refine G_aload_n C dX8_millionths_43 rfl 0 rfl ?_
        refine G_aload_n C dX8_millionths_44 rfl 1 rfl ?_
        refine G_iload_n C dX8_millionths_45 rfl 2 rfl ?_
        refine G_callL (rest := []) (fun a ha => g_runV C (nargs := 2) (As := [.ref (g_b X + 13), .int x2]) (rest := []) gX8_millionths_X8_guessWeight rfl (by decide +kernel) rfl t67 rfl rfl rfl rfl dX8_millionths_46 (k_m_X8_guessWeight X.1.2.1 X.2.1 (g_n X) (g_T X) (g_ag_sub hA (by decide +kernel)) N x2 σ a ha)) (fun q3 => ?_)
        refine G_ldc2 C dX8_millionths_49 c_X8_millionths_28 ?_
        refine G_lmul C dX8_millionths_52 ?_
        refine G_lload_n C dX8_millionths_53 rfl 3 rfl ?_
        refine G_chn (fun h4 => ?_)
        refine G_ldiv C dX8_millionths_54 h4 ?_
        refine G_l2i C dX8_millionths_55 ?_
        exact G_iret C q dX8_millionths_56
      · refine G_iconst C dX8_millionths_41 (v := 0) (by decide +kernel) ?_
        exact G_iret C q dX8_millionths_42
    · refine G_lload_n C dX8_millionths_19 rfl 3 rfl ?_
      refine G_aload_n C dX8_millionths_20 rfl 0 rfl ?_
      refine G_aload_n C dX8_millionths_21 rfl 1 rfl ?_
      refine G_iload C dX8_millionths_22 4 rfl ?_
      refine G_callL (rest := [.long x3]) (fun a ha => g_runV C (nargs := 2) (As := [.ref (g_b X + 13), .int x5]) (rest := [.long x3]) gX8_millionths_X8_guessWeight rfl (by decide +kernel) rfl t67 rfl rfl rfl rfl dX8_millionths_24 (k_m_X8_guessWeight X.1.2.1 X.2.1 (g_n X) (g_T X) (g_ag_sub hA (by decide +kernel)) N x5 σ a ha)) (fun q5 => ?_)
      refine G_ladd C dX8_millionths_27 ?_
      refine G_ltl (fun v6 => ?_)
      refine G_lstore_n C dX8_millionths_28 rfl rfl (lv' := [(3, .long v6), (0, .ref (g_b X + 67)), (1, .ref (g_b X + 13)), (2, .int x2), (5, .int x5)]) rfl ?_
      refine G_iinc C dX8_millionths_29 4 rfl (v := (x5 + (1 : Int32))) (by rfl) rfl (lv' := [(5, .int (x5 + (1 : Int32))), (3, .long v6), (0, .ref (g_b X + 67)), (1, .ref (g_b X + 13)), (2, .int x2)]) rfl ?_
      refine G_ltv (fun v => [(5, .int v), (3, .long v6), (0, .ref (g_b X + 67)), (1, .ref (g_b X + 13)), (2, .int x2)]) (fun v7 => ?_)
      refine G_goto C dX8_millionths_32 (tgt := 10) (by decide) ?_
      exact G_sub (ih x2 v6 v7 q5.2) [2, 3, 4, 1, 0] rfl
set_option maxHeartbeats 4000000 in
set_option maxRecDepth 100000 in
theorem w_m_X8_millionths_0 {X : g_X (Int32 × g_St)} (C : g_C X cX8_millionths RX8 wsX8_millionths rm_m_X8_millionths 6) (q : g_qI X) (hA : g_ag L_m_X8_millionths (g_n X) (g_T X)) (N : Nat) (x2 : Int32) (σ : g_St) : G X 0 [(0, .ref (g_b X + 67)), (1, .ref (g_b X + 13)), (2, .int x2)] [] σ (m_X8_millionths N x2 σ) := by
  have t67 := g_ag_at hA (c := 67) rfl tc67
  unfold m_X8_millionths
  refine G_aload_n C dX8_millionths_0 rfl 0 rfl ?_
  refine G_aload_n C dX8_millionths_1 rfl 1 rfl ?_
  refine G_iconst C dX8_millionths_2 (v := -1) (by decide +kernel) ?_
  refine G_callL (rest := []) (fun a ha => g_runV C (nargs := 2) (As := [.ref (g_b X + 13), .int (-1 : Int32)]) (rest := []) gX8_millionths_X8_guessWeight rfl (by decide +kernel) rfl t67 rfl rfl rfl rfl dX8_millionths_3 (k_m_X8_guessWeight X.1.2.1 X.2.1 (g_n X) (g_T X) (g_ag_sub hA (by decide +kernel)) N (-1 : Int32) σ a ha)) (fun q1 => ?_)
  refine G_lstore_n C dX8_millionths_6 rfl rfl (lv' := [(3, .long q1.1), (0, .ref (g_b X + 67)), (1, .ref (g_b X + 13)), (2, .int x2)]) rfl ?_
  refine G_iconst C dX8_millionths_7 (v := 0) (by decide +kernel) ?_
  refine G_istore C dX8_millionths_8 rfl (lv' := [(5, .int (0 : Int32)), (3, .long q1.1), (0, .ref (g_b X + 67)), (1, .ref (g_b X + 13)), (2, .int x2)]) rfl ?_
  exact G_sub (w_m_X8_millionths_10 C q hA N N x2 q1.1 (0 : Int32) q1.2) [2, 3, 4, 1, 0] rfl
theorem k_m_X8_millionths (l : Launch) (E : g_E) (n : Nat) (T : Nat → g_Sh) (hA : g_ag L_m_X8_millionths n T) (N : Nat) (x2 : Int32) (σ : g_St) (a : Int32 × g_St) (h : m_X8_millionths N x2 σ = some a) : Met l yX8_millionths wsX8_millionths rm_m_X8_millionths (g_Pc E n T [.ref (E.2.1 + 67), .ref (E.2.1 + 13), .int x2] σ) (g_Qi E n T a) 0 0 (g_A E) :=
  g_metI (by decide +kernel) rfl rfl (Nat.le_of_ble_eq_true rfl) (fun M Qf C q => by rw [← h]; exact w_m_X8_millionths_0 C q hA N x2 σ)
def L_m_X8_heaviest : List Nat := [13, 14, 67, 68]
abbrev rm_m_X8_heaviest : Room := { frames := 3, cells := 0, slots := 0, locals := 72 }
theorem f_X8_heaviest_23 : g_Fld wsX8_heaviest RX8 23 7 3 := ⟨RX7, TX7, 6, rfl, by decide +kernel, by decide, by decide +kernel⟩
theorem c_X8_heaviest_30 : Cond.constantLong RX8 30 (-1) ∈ wsX8_heaviest := by decide +kernel
set_option maxHeartbeats 4000000 in
set_option maxRecDepth 100000 in
theorem w_m_X8_heaviest_40 {X : g_X (Int32 × g_St)} (C : g_C X cX8_heaviest RX8 wsX8_heaviest rm_m_X8_heaviest 8) (q : g_qI X) (hA : g_ag L_m_X8_heaviest (g_n X) (g_T X)) (k9 : Int32 → Int64 → Int32 → g_St → Option (Int32 × g_St)) (hk9 : ∀ (x2 : Int32) (x3 : Int64) (x5 : Int32) (σ : g_St), G X 9 [(0, .ref (g_b X + 67)), (1, .ref (g_b X + 13)), (2, .int x2), (3, .long x3), (5, .int x5)] [] σ (k9 x2 x3 x5 σ)) (N : Nat) (x2 : Int32) (x3 : Int64) (x5 : Int32) (σ : g_St) : G X 40 [(0, .ref (g_b X + 67)), (1, .ref (g_b X + 13)), (2, .int x2), (3, .long x3), (5, .int x5)] [] σ (m_X8_heaviest_40 k9 N x2 x3 x5 σ) := by
  unfold m_X8_heaviest_40
  refine G_iinc C dX8_heaviest_40 4 rfl (v := (x5 + (1 : Int32))) (by rfl) rfl (lv' := [(5, .int (x5 + (1 : Int32))), (0, .ref (g_b X + 67)), (1, .ref (g_b X + 13)), (2, .int x2), (3, .long x3)]) rfl ?_
  refine G_ltv (fun v => [(5, .int v), (0, .ref (g_b X + 67)), (1, .ref (g_b X + 13)), (2, .int x2), (3, .long x3)]) (fun v1 => ?_)
  refine G_goto C dX8_heaviest_43 (tgt := 9) (by decide) ?_
  exact G_sub (hk9 x2 x3 v1 σ) [1, 2, 3, 4, 0] rfl
set_option maxHeartbeats 4000000 in
set_option maxRecDepth 100000 in
theorem w_m_X8_heaviest_9 {X : g_X (Int32 × g_St)} (C : g_C X cX8_heaviest RX8 wsX8_heaviest rm_m_X8_heaviest 8) (q : g_qI X) (hA : g_ag L_m_X8_heaviest (g_n X) (g_T X)) (N : Nat) : ∀ (fu : Nat) (x2 : Int32) (x3 : Int64) (x5 : Int32) (σ : g_St), G X 9 [(0, .ref (g_b X + 67)), (1, .ref (g_b X + 13)), (2, .int x2), (3, .long x3), (5, .int x5)] [] σ (m_X8_heaviest_9 N fu x2 x3 x5 σ) := by
  have t13 := g_ag_at hA (c := 13) rfl tc13
  have t67 := g_ag_at hA (c := 67) rfl tc67
  intro fu
  induction fu with
  | zero => intro x2 x3 x5 σ; exact G_none
  | succ fu ih =>
    intro x2 x3 x5 σ
    unfold m_X8_heaviest_9
    refine G_iload C dX8_heaviest_9 4 rfl ?_
    refine G_aload_n C dX8_heaviest_11 rfl 1 rfl ?_
    refine G_getI C f_X8_heaviest_23 t13 rfl dX8_heaviest_12 ?_
    refine G_icmp_ge C dX8_heaviest_15 (tgt := 46) (by decide) (fun c1 => ?_) (fun c1 => ?_)
    · refine G_aload_n C dX8_heaviest_46 rfl 0 rfl ?_
      refine G_aload_n C dX8_heaviest_47 rfl 1 rfl ?_
      refine G_iconst C dX8_heaviest_48 (v := -1) (by decide +kernel) ?_
      refine G_callL (rest := []) (fun a ha => g_runV C (nargs := 2) (As := [.ref (g_b X + 13), .int (-1 : Int32)]) (rest := []) gX8_heaviest_X8_guessWeight rfl (by decide +kernel) rfl t67 rfl rfl rfl rfl dX8_heaviest_49 (k_m_X8_guessWeight X.1.2.1 X.2.1 (g_n X) (g_T X) (g_ag_sub hA (by decide +kernel)) N (-1 : Int32) σ a ha)) (fun q2 => ?_)
      refine G_lload_n C dX8_heaviest_52 rfl 3 rfl ?_
      refine G_lcmp C dX8_heaviest_53 ?_
      refine G_if_le C dX8_heaviest_54 (tgt := 61) (by decide) (fun c3 => ?_) (fun c3 => ?_)
      · refine G_iload_n C dX8_heaviest_61 rfl 2 rfl ?_
        exact G_iret C q dX8_heaviest_62
      · refine G_iconst C dX8_heaviest_57 (v := -1) (by decide +kernel) ?_
        refine G_goto C dX8_heaviest_58 (tgt := 62) (by decide) ?_
        exact G_iret C q dX8_heaviest_62
    · refine G_aload_n C dX8_heaviest_18 rfl 0 rfl ?_
      refine G_aload_n C dX8_heaviest_19 rfl 1 rfl ?_
      refine G_iload C dX8_heaviest_20 4 rfl ?_
      refine G_callL (rest := []) (fun a ha => g_runV C (nargs := 2) (As := [.ref (g_b X + 13), .int x5]) (rest := []) gX8_heaviest_X8_guessWeight rfl (by decide +kernel) rfl t67 rfl rfl rfl rfl dX8_heaviest_22 (k_m_X8_guessWeight X.1.2.1 X.2.1 (g_n X) (g_T X) (g_ag_sub hA (by decide +kernel)) N x5 σ a ha)) (fun q4 => ?_)
      refine G_lstore C dX8_heaviest_25 rfl (lv' := [(6, .long q4.1), (0, .ref (g_b X + 67)), (1, .ref (g_b X + 13)), (2, .int x2), (3, .long x3), (5, .int x5)]) rfl ?_
      refine G_lload C dX8_heaviest_27 0 rfl ?_
      refine G_lload_n C dX8_heaviest_29 rfl 4 rfl ?_
      refine G_lcmp C dX8_heaviest_30 ?_
      refine G_if_le C dX8_heaviest_31 (tgt := 40) (by decide) (fun c5 => ?_) (fun c5 => ?_)
      · exact G_sub (w_m_X8_heaviest_40 C q hA (m_X8_heaviest_9 N fu) ih N x2 x3 x5 q4.2) [1, 2, 3, 4, 5] rfl
      · refine G_iload C dX8_heaviest_34 5 rfl ?_
        refine G_istore_n C dX8_heaviest_36 rfl rfl (lv' := [(2, .int x5), (6, .long q4.1), (0, .ref (g_b X + 67)), (1, .ref (g_b X + 13)), (3, .long x3), (5, .int x5)]) rfl ?_
        refine G_lload C dX8_heaviest_37 1 rfl ?_
        refine G_lstore_n C dX8_heaviest_39 rfl rfl (lv' := [(3, .long q4.1), (2, .int x5), (6, .long q4.1), (0, .ref (g_b X + 67)), (1, .ref (g_b X + 13)), (5, .int x5)]) rfl ?_
        exact G_sub (w_m_X8_heaviest_40 C q hA (m_X8_heaviest_9 N fu) ih N x5 q4.1 x5 q4.2) [3, 4, 1, 0, 5] rfl
set_option maxHeartbeats 4000000 in
set_option maxRecDepth 100000 in
theorem w_m_X8_heaviest_0 {X : g_X (Int32 × g_St)} (C : g_C X cX8_heaviest RX8 wsX8_heaviest rm_m_X8_heaviest 8) (q : g_qI X) (hA : g_ag L_m_X8_heaviest (g_n X) (g_T X)) (N : Nat) (σ : g_St) : G X 0 [(0, .ref (g_b X + 67)), (1, .ref (g_b X + 13))] [] σ (m_X8_heaviest N σ) := by
  unfold m_X8_heaviest
  refine G_iconst C dX8_heaviest_0 (v := -1) (by decide +kernel) ?_
  refine G_istore_n C dX8_heaviest_1 rfl rfl (lv' := [(2, .int (-1 : Int32)), (0, .ref (g_b X + 67)), (1, .ref (g_b X + 13))]) rfl ?_
  refine G_ldc2 C dX8_heaviest_2 c_X8_heaviest_30 ?_
  refine G_lstore_n C dX8_heaviest_5 rfl rfl (lv' := [(3, .long (-1 : Int64)), (2, .int (-1 : Int32)), (0, .ref (g_b X + 67)), (1, .ref (g_b X + 13))]) rfl ?_
  refine G_iconst C dX8_heaviest_6 (v := 0) (by decide +kernel) ?_
  refine G_istore C dX8_heaviest_7 rfl (lv' := [(5, .int (0 : Int32)), (3, .long (-1 : Int64)), (2, .int (-1 : Int32)), (0, .ref (g_b X + 67)), (1, .ref (g_b X + 13))]) rfl ?_
  exact G_sub (w_m_X8_heaviest_9 C q hA N N (-1 : Int32) (-1 : Int64) (0 : Int32) σ) [3, 4, 2, 1, 0] rfl
theorem k_m_X8_heaviest (l : Launch) (E : g_E) (n : Nat) (T : Nat → g_Sh) (hA : g_ag L_m_X8_heaviest n T) (N : Nat) (σ : g_St) (a : Int32 × g_St) (h : m_X8_heaviest N σ = some a) : Met l yX8_heaviest wsX8_heaviest rm_m_X8_heaviest (g_Pc E n T [.ref (E.2.1 + 67), .ref (E.2.1 + 13)] σ) (g_Qi E n T a) 0 0 (g_A E) :=
  g_metI (by decide +kernel) rfl rfl (Nat.le_of_ble_eq_true rfl) (fun M Qf C q => by rw [← h]; exact w_m_X8_heaviest_0 C q hA N σ)
def L_m_X9_fittingFor : List Nat := [13, 15, 16, 17]
abbrev rm_m_X9_fittingFor : Room := { frames := 1, cells := 0, slots := 0, locals := 30 }
theorem f_X9_fittingFor_25 : g_Fld wsX9_fittingFor RX9 25 7 2 := ⟨RX7, TX7, 6, rfl, by decide +kernel, by decide, by decide +kernel⟩
theorem f_X9_fittingFor_42 : g_Fld wsX9_fittingFor RX9 42 7 1 := ⟨RX7, TX7, 6, rfl, by decide +kernel, by decide, by decide +kernel⟩
theorem f_X9_fittingFor_45 : g_Fld wsX9_fittingFor RX9 45 4 0 := ⟨RX4, TX4, 8, rfl, by decide +kernel, by decide, by decide +kernel⟩
theorem w_X9_fittingFor_50 : g_mw wsX9_fittingFor RX9 50 Lib.Math.abs.name Lib.Math.abs.code 1 := ⟨by decide +kernel, by decide +kernel, by decide +kernel, by decide +kernel⟩
set_option maxHeartbeats 4000000 in
set_option maxRecDepth 100000 in
theorem w_m_X9_fittingFor_97 {X : g_X (Int32 × g_St)} (C : g_C X cX9_fittingFor RX9 wsX9_fittingFor rm_m_X9_fittingFor 8) (q : g_qI X) (hA : g_ag L_m_X9_fittingFor (g_n X) (g_T X)) (k28 : Int32 → Int32 → Int32 → Int32 → Int32 → g_St → Option (Int32 × g_St)) (hk28 : ∀ (x2 : Int32) (x3 : Int32) (x4 : Int32) (x5 : Int32) (x6 : Int32) (σ : g_St), G X 28 [(0, .ref (g_b X + 13)), (1, .ref (g_b X + 16)), (2, .int x2), (3, .int x3), (4, .int x4), (5, .int x5), (6, .int x6)] [] σ (k28 x2 x3 x4 x5 x6 σ)) (N : Nat) (x2 : Int32) (x3 : Int32) (x4 : Int32) (x5 : Int32) (x6 : Int32) (σ : g_St) : G X 97 [(0, .ref (g_b X + 13)), (1, .ref (g_b X + 16)), (2, .int x2), (3, .int x3), (4, .int x4), (5, .int x5), (6, .int x6)] [] σ (m_X9_fittingFor_97 k28 N x2 x3 x4 x5 x6 σ) := by
  unfold m_X9_fittingFor_97
  refine G_iinc C dX9_fittingFor_97 6 rfl (v := (x6 + (1 : Int32))) (by rfl) rfl (lv' := [(6, .int (x6 + (1 : Int32))), (0, .ref (g_b X + 13)), (1, .ref (g_b X + 16)), (2, .int x2), (3, .int x3), (4, .int x4), (5, .int x5)]) rfl ?_
  refine G_ltv (fun v => [(6, .int v), (0, .ref (g_b X + 13)), (1, .ref (g_b X + 16)), (2, .int x2), (3, .int x3), (4, .int x4), (5, .int x5)]) (fun v1 => ?_)
  refine G_goto C dX9_fittingFor_100 (tgt := 28) (by decide) ?_
  exact G_sub (hk28 x2 x3 x4 x5 v1 σ) [1, 2, 3, 4, 5, 6, 0] rfl
set_option maxHeartbeats 4000000 in
set_option maxRecDepth 100000 in
theorem w_m_X9_fittingFor_63 {X : g_X (Int32 × g_St)} (C : g_C X cX9_fittingFor RX9 wsX9_fittingFor rm_m_X9_fittingFor 8) (q : g_qI X) (hA : g_ag L_m_X9_fittingFor (g_n X) (g_T X)) (k28 : Int32 → Int32 → Int32 → Int32 → Int32 → g_St → Option (Int32 × g_St)) (hk28 : ∀ (x2 : Int32) (x3 : Int32) (x4 : Int32) (x5 : Int32) (x6 : Int32) (σ : g_St), G X 28 [(0, .ref (g_b X + 13)), (1, .ref (g_b X + 16)), (2, .int x2), (3, .int x3), (4, .int x4), (5, .int x5), (6, .int x6)] [] σ (k28 x2 x3 x4 x5 x6 σ)) (N : Nat) (x2 : Int32) (x3 : Int32) (x4 : Int32) (x5 : Int32) (x6 : Int32) (s0 : Int32) (σ : g_St) : G X 63 [(0, .ref (g_b X + 13)), (1, .ref (g_b X + 16)), (2, .int x2), (3, .int x3), (4, .int x4), (5, .int x5), (6, .int x6)] [.int s0] σ (m_X9_fittingFor_63 k28 N x2 x3 x4 x5 x6 s0 σ) := by
  have t16 := g_ag_at hA (c := 16) rfl tc16
  have t17 := g_ag_at hA (c := 17) rfl tc17
  unfold m_X9_fittingFor_63
  refine G_istore C dX9_fittingFor_63 rfl (lv' := [(7, .int s0), (0, .ref (g_b X + 13)), (1, .ref (g_b X + 16)), (2, .int x2), (3, .int x3), (4, .int x4), (5, .int x5), (6, .int x6)]) rfl ?_
  refine G_iload C dX9_fittingFor_65 7 rfl ?_
  refine G_iload_n C dX9_fittingFor_67 rfl 3 rfl ?_
  refine G_icmp_eq C dX9_fittingFor_68 (tgt := 97) (by decide) (fun c1 => ?_) (fun c1 => ?_)
  · exact G_sub (w_m_X9_fittingFor_97 C q hA k28 hk28 N x2 x3 x4 x5 x6 σ) [1, 2, 3, 4, 5, 6, 7] rfl
  · refine G_iload C dX9_fittingFor_71 0 rfl ?_
    refine G_if_eq C dX9_fittingFor_73 (tgt := 97) (by decide) (fun c2 => ?_) (fun c2 => ?_)
    · exact G_sub (w_m_X9_fittingFor_97 C q hA k28 hk28 N x2 x3 x4 x5 x6 σ) [1, 2, 3, 4, 5, 6, 7] rfl
    · refine G_aload_n C dX9_fittingFor_76 rfl 2 rfl ?_
      refine G_getR C f_X9_fittingFor_45 t16 rfl dX9_fittingFor_77 ?_
      refine G_iload C dX9_fittingFor_80 7 rfl ?_
      refine G_chk (fun h3 => ?_)
      refine G_ald C t17 h3 dX9_fittingFor_82 ?_
      refine G_iload C dX9_fittingFor_83 6 rfl ?_
      refine G_icmp_lt C dX9_fittingFor_85 (tgt := 97) (by decide) (fun c4 => ?_) (fun c4 => ?_)
      · exact G_sub (w_m_X9_fittingFor_97 C q hA k28 hk28 N x2 x3 x4 x5 x6 σ) [1, 2, 3, 4, 5, 6, 7] rfl
      · refine G_iload C dX9_fittingFor_88 5 rfl ?_
        refine G_iconst C dX9_fittingFor_90 (v := 1) (by decide +kernel) ?_
        refine G_iload C dX9_fittingFor_91 7 rfl ?_
        refine G_ishl C dX9_fittingFor_93 ?_
        refine G_ior C dX9_fittingFor_94 ?_
        refine G_lti (fun v5 => ?_)
        refine G_istore C dX9_fittingFor_95 rfl (lv' := [(4, .int v5), (7, .int s0), (0, .ref (g_b X + 13)), (1, .ref (g_b X + 16)), (2, .int x2), (3, .int x3), (5, .int x5), (6, .int x6)]) rfl ?_
        exact G_sub (w_m_X9_fittingFor_97 C q hA k28 hk28 N x2 x3 v5 x5 x6 σ) [2, 3, 4, 5, 0, 6, 7] rfl
set_option maxHeartbeats 4000000 in
set_option maxRecDepth 100000 in
theorem w_m_X9_fittingFor_28 {X : g_X (Int32 × g_St)} (C : g_C X cX9_fittingFor RX9 wsX9_fittingFor rm_m_X9_fittingFor 8) (q : g_qI X) (hA : g_ag L_m_X9_fittingFor (g_n X) (g_T X)) (N : Nat) : ∀ (fu : Nat) (x2 : Int32) (x3 : Int32) (x4 : Int32) (x5 : Int32) (x6 : Int32) (σ : g_St), G X 28 [(0, .ref (g_b X + 13)), (1, .ref (g_b X + 16)), (2, .int x2), (3, .int x3), (4, .int x4), (5, .int x5), (6, .int x6)] [] σ (m_X9_fittingFor_28 N fu x2 x3 x4 x5 x6 σ) := by
  have t13 := g_ag_at hA (c := 13) rfl tc13
  have t16 := g_ag_at hA (c := 16) rfl tc16
  have t17 := g_ag_at hA (c := 17) rfl tc17
  intro fu
  induction fu with
  | zero => intro x2 x3 x4 x5 x6 σ; exact G_none
  | succ fu ih =>
    intro x2 x3 x4 x5 x6 σ
    unfold m_X9_fittingFor_28
    refine G_iload C dX9_fittingFor_28 6 rfl ?_
    refine G_aload_n C dX9_fittingFor_30 rfl 0 rfl ?_
    refine G_getI C f_X9_fittingFor_25 t13 rfl dX9_fittingFor_31 ?_
    refine G_icmp_ge C dX9_fittingFor_34 (tgt := 103) (by decide) (fun c1 => ?_) (fun c1 => ?_)
    · refine G_iload C dX9_fittingFor_103 4 rfl ?_
      exact G_iret C q dX9_fittingFor_105
    · refine G_aload_n C dX9_fittingFor_37 rfl 1 rfl ?_
      refine G_getR C f_X9_fittingFor_45 t16 rfl dX9_fittingFor_38 ?_
      refine G_iload_n C dX9_fittingFor_41 rfl 2 rfl ?_
      refine G_chk (fun h2 => ?_)
      refine G_ald C t17 h2 dX9_fittingFor_42 ?_
      refine G_aload_n C dX9_fittingFor_43 rfl 1 rfl ?_
      refine G_getR C f_X9_fittingFor_45 t16 rfl dX9_fittingFor_44 ?_
      refine G_iload C dX9_fittingFor_47 6 rfl ?_
      refine G_chk (fun h3 => ?_)
      refine G_ald C t17 h3 dX9_fittingFor_49 ?_
      refine G_isub C dX9_fittingFor_50 ?_
      refine G_mabs C w_X9_fittingFor_50 rfl dX9_fittingFor_51 ?_
      refine G_iload_n C dX9_fittingFor_54 rfl 3 rfl ?_
      refine G_icmp_gt C dX9_fittingFor_55 (tgt := 62) (by decide) (fun c4 => ?_) (fun c4 => ?_)
      · refine G_iconst C dX9_fittingFor_62 (v := 0) (by decide +kernel) ?_
        exact w_m_X9_fittingFor_63 C q hA (m_X9_fittingFor_28 N fu) ih N x2 x3 x4 x5 x6 (0 : Int32) σ
      · refine G_iconst C dX9_fittingFor_58 (v := 1) (by decide +kernel) ?_
        refine G_goto C dX9_fittingFor_59 (tgt := 63) (by decide) ?_
        exact w_m_X9_fittingFor_63 C q hA (m_X9_fittingFor_28 N fu) ih N x2 x3 x4 x5 x6 (1 : Int32) σ
set_option maxHeartbeats 4000000 in
set_option maxRecDepth 100000 in
theorem w_m_X9_fittingFor_0 {X : g_X (Int32 × g_St)} (C : g_C X cX9_fittingFor RX9 wsX9_fittingFor rm_m_X9_fittingFor 8) (q : g_qI X) (hA : g_ag L_m_X9_fittingFor (g_n X) (g_T X)) (N : Nat) (x2 : Int32) (x3 : Int32) (σ : g_St) : G X 0 [(0, .ref (g_b X + 13)), (1, .ref (g_b X + 16)), (2, .int x2), (3, .int x3)] [] σ (m_X9_fittingFor N x2 x3 σ) := by
  have t13 := g_ag_at hA (c := 13) rfl tc13
  have t15 := g_ag_at hA (c := 15) rfl tc15
  have t16 := g_ag_at hA (c := 16) rfl tc16
  have t17 := g_ag_at hA (c := 17) rfl tc17
  unfold m_X9_fittingFor
  refine G_iconst C dX9_fittingFor_0 (v := 0) (by decide +kernel) ?_
  refine G_istore C dX9_fittingFor_1 rfl (lv' := [(4, .int (0 : Int32)), (0, .ref (g_b X + 13)), (1, .ref (g_b X + 16)), (2, .int x2), (3, .int x3)]) rfl ?_
  refine G_aload_n C dX9_fittingFor_3 rfl 1 rfl ?_
  refine G_getR C f_X9_fittingFor_42 t13 rfl dX9_fittingFor_4 ?_
  refine G_iconst C dX9_fittingFor_7 (v := 2) (by decide +kernel) ?_
  refine G_aldk C t15 (by decide +kernel) (k := 2) rfl dX9_fittingFor_8 ?_
  refine G_lti (fun v1 => ?_)
  refine G_istore C dX9_fittingFor_9 rfl (lv' := [(5, .int v1), (4, .int (0 : Int32)), (0, .ref (g_b X + 13)), (1, .ref (g_b X + 16)), (2, .int x2), (3, .int x3)]) rfl ?_
  refine G_aload_n C dX9_fittingFor_11 rfl 3 rfl ?_
  refine G_getR C f_X9_fittingFor_45 t16 rfl dX9_fittingFor_12 ?_
  refine G_iload_n C dX9_fittingFor_15 rfl 4 rfl ?_
  refine G_chk (fun h2 => ?_)
  refine G_ald C t17 h2 dX9_fittingFor_16 ?_
  refine G_iload C dX9_fittingFor_17 0 rfl ?_
  refine G_icmp_ge C dX9_fittingFor_19 (tgt := 25) (by decide) (fun c3 => ?_) (fun c3 => ?_)
  · refine G_iconst C dX9_fittingFor_25 (v := 0) (by decide +kernel) ?_
    refine G_istore C dX9_fittingFor_26 rfl (lv' := [(6, .int (0 : Int32)), (5, .int v1), (4, .int (0 : Int32)), (0, .ref (g_b X + 13)), (1, .ref (g_b X + 16)), (2, .int x2), (3, .int x3)]) rfl ?_
    exact G_sub (w_m_X9_fittingFor_28 C q hA N N x2 x3 (0 : Int32) v1 (0 : Int32) σ) [3, 4, 5, 6, 2, 1, 0] rfl
  · refine G_iload C dX9_fittingFor_22 1 rfl ?_
    exact G_iret C q dX9_fittingFor_24
theorem k_m_X9_fittingFor (l : Launch) (E : g_E) (n : Nat) (T : Nat → g_Sh) (hA : g_ag L_m_X9_fittingFor n T) (N : Nat) (x2 : Int32) (x3 : Int32) (σ : g_St) (a : Int32 × g_St) (h : m_X9_fittingFor N x2 x3 σ = some a) : Met l yX9_fittingFor wsX9_fittingFor rm_m_X9_fittingFor (g_Pc E n T [.ref (E.2.1 + 13), .ref (E.2.1 + 16), .int x2, .int x3] σ) (g_Qi E n T a) 0 0 (g_A E) :=
  g_metI (by decide +kernel) rfl rfl (Nat.le_of_ble_eq_true rfl) (fun M Qf C q => by rw [← h]; exact w_m_X9_fittingFor_0 C q hA N x2 x3 σ)
def L_m_X9_firstOf : List Nat := []
abbrev rm_m_X9_firstOf : Room := { frames := 1, cells := 0, slots := 0, locals := 21 }
theorem n_X9_firstOf_59 : Cond.methodLinkNest RX9 59 yX10_holds "BirthdayLot" ∈ g_nest := by decide +kernel
theorem w_X9_firstOf_59 : Cond.static yX10_holds ∈ wsX9_firstOf ∧ Cond.initialized (MethodName.cls yX10_holds) ∈ wsX9_firstOf := ⟨by decide +kernel, by decide +kernel⟩
set_option maxHeartbeats 4000000 in
set_option maxRecDepth 100000 in
theorem w_m_X9_firstOf_2 {X : g_X (Int32 × g_St)} (C : g_C X cX9_firstOf RX9 wsX9_firstOf rm_m_X9_firstOf 3) (q : g_qI X) (hA : g_ag L_m_X9_firstOf (g_n X) (g_T X)) (N : Nat) : ∀ (fu : Nat) (x0 : Int32) (x1 : Int32) (x2 : Int32) (σ : g_St), G X 2 [(0, .int x0), (1, .int x1), (2, .int x2)] [] σ (m_X9_firstOf_2 N fu x0 x1 x2 σ) := by
  intro fu
  induction fu with
  | zero => intro x0 x1 x2 σ; exact G_none
  | succ fu ih =>
    intro x0 x1 x2 σ
    unfold m_X9_firstOf_2
    refine G_iload_n C dX9_firstOf_2 rfl 2 rfl ?_
    refine G_iload_n C dX9_firstOf_3 rfl 1 rfl ?_
    refine G_icmp_ge C dX9_firstOf_4 (tgt := 23) (by decide) (fun c1 => ?_) (fun c1 => ?_)
    · refine G_iconst C dX9_firstOf_23 (v := -1) (by decide +kernel) ?_
      exact G_iret C q dX9_firstOf_24
    · refine G_iload_n C dX9_firstOf_7 rfl 0 rfl ?_
      refine G_iload_n C dX9_firstOf_8 rfl 2 rfl ?_
      refine G_callI (rest := []) (fun a ha => g_runSN C (nargs := 2) (As := [.int x0, .int x2]) (rest := []) (host := "BirthdayLot") gX9_firstOf_X10_holds_n59 rfl n_X9_firstOf_59 w_X9_firstOf_59 (by decide +kernel) rfl rfl rfl dX9_firstOf_9 (k_m_X10_holds X.1.2.1 X.2.1 (g_n X) (g_T X) (g_ag_sub hA (by decide +kernel)) x0 x2 σ a ha)) (fun q2 => ?_)
      refine G_if_eq C dX9_firstOf_12 (tgt := 17) (by decide) (fun c3 => ?_) (fun c3 => ?_)
      · refine G_iinc C dX9_firstOf_17 2 rfl (v := (x2 + (1 : Int32))) (by rfl) rfl (lv' := [(2, .int (x2 + (1 : Int32))), (0, .int x0), (1, .int x1)]) rfl ?_
        refine G_ltv (fun v => [(2, .int v), (0, .int x0), (1, .int x1)]) (fun v4 => ?_)
        refine G_goto C dX9_firstOf_20 (tgt := 2) (by decide) ?_
        exact G_sub (ih x0 x1 v4 q2.2) [1, 2, 0] rfl
      · refine G_iload_n C dX9_firstOf_15 rfl 2 rfl ?_
        exact G_iret C q dX9_firstOf_16
set_option maxHeartbeats 4000000 in
set_option maxRecDepth 100000 in
theorem w_m_X9_firstOf_0 {X : g_X (Int32 × g_St)} (C : g_C X cX9_firstOf RX9 wsX9_firstOf rm_m_X9_firstOf 3) (q : g_qI X) (hA : g_ag L_m_X9_firstOf (g_n X) (g_T X)) (N : Nat) (x0 : Int32) (x1 : Int32) (σ : g_St) : G X 0 [(0, .int x0), (1, .int x1)] [] σ (m_X9_firstOf N x0 x1 σ) := by
  unfold m_X9_firstOf
  refine G_iconst C dX9_firstOf_0 (v := 0) (by decide +kernel) ?_
  refine G_istore_n C dX9_firstOf_1 rfl rfl (lv' := [(2, .int (0 : Int32)), (0, .int x0), (1, .int x1)]) rfl ?_
  exact G_sub (w_m_X9_firstOf_2 C q hA N N x0 x1 (0 : Int32) σ) [1, 2, 0] rfl
theorem k_m_X9_firstOf (l : Launch) (E : g_E) (n : Nat) (T : Nat → g_Sh) (hA : g_ag L_m_X9_firstOf n T) (N : Nat) (x0 : Int32) (x1 : Int32) (σ : g_St) (a : Int32 × g_St) (h : m_X9_firstOf N x0 x1 σ = some a) : Met l yX9_firstOf wsX9_firstOf rm_m_X9_firstOf (g_Pc E n T [.int x0, .int x1] σ) (g_Qi E n T a) 0 0 (g_A E) :=
  g_metI (by decide +kernel) rfl rfl (Nat.le_of_ble_eq_true rfl) (fun M Qf C q => by rw [← h]; exact w_m_X9_firstOf_0 C q hA N x0 x1 σ)
def L_m_X9_mostAmong : List Nat := [63, 64, 65]
abbrev rm_m_X9_mostAmong : Room := { frames := 2, cells := 0, slots := 0, locals := 43 }
theorem f_X9_mostAmong_15 : g_Fld wsX9_mostAmong RX9 15 9 1 := ⟨RX9, TX9, 4, rfl, by decide +kernel, by decide, by decide +kernel⟩
theorem f_X9_mostAmong_9 : g_Fld wsX9_mostAmong RX9 9 9 0 := ⟨RX9, TX9, 4, rfl, by decide +kernel, by decide, by decide +kernel⟩
theorem n_X9_mostAmong_59 : Cond.methodLinkNest RX9 59 yX10_holds "BirthdayLot" ∈ g_nest := by decide +kernel
theorem w_X9_mostAmong_59 : Cond.static yX10_holds ∈ wsX9_mostAmong ∧ Cond.initialized (MethodName.cls yX10_holds) ∈ wsX9_mostAmong := ⟨by decide +kernel, by decide +kernel⟩
theorem w_X9_mostAmong_63 : g_mw wsX9_mostAmong RX9 63 Lib.Math.max.name Lib.Math.max.code 2 := ⟨by decide +kernel, by decide +kernel, by decide +kernel, by decide +kernel⟩
set_option maxHeartbeats 4000000 in
set_option maxRecDepth 100000 in
theorem w_m_X9_mostAmong_82 {X : g_X (Int32 × g_St)} (C : g_C X cX9_mostAmong RX9 wsX9_mostAmong rm_m_X9_mostAmong 7) (q : g_qI X) (hA : g_ag L_m_X9_mostAmong (g_n X) (g_T X)) (k36 : Int32 → Int32 → Int32 → Int32 → Int32 → g_St → Option (Int32 × g_St)) (hk36 : ∀ (x2 : Int32) (x3 : Int32) (x4 : Int32) (x5 : Int32) (x6 : Int32) (σ : g_St), G X 36 [(0, .ref (g_b X + 63)), (2, .int x2), (3, .int x3), (4, .int x4), (5, .int x5), (6, .int x6)] [] σ (k36 x2 x3 x4 x5 x6 σ)) (N : Nat) (x2 : Int32) (x3 : Int32) (x4 : Int32) (x5 : Int32) (x6 : Int32) (σ : g_St) : G X 82 [(0, .ref (g_b X + 63)), (2, .int x2), (3, .int x3), (4, .int x4), (5, .int x5), (6, .int x6)] [] σ (m_X9_mostAmong_82 k36 N x2 x3 x4 x5 x6 σ) := by
  unfold m_X9_mostAmong_82
  refine G_iinc C dX9_mostAmong_82 5 rfl (v := (x6 + (1 : Int32))) (by rfl) rfl (lv' := [(6, .int (x6 + (1 : Int32))), (0, .ref (g_b X + 63)), (2, .int x2), (3, .int x3), (4, .int x4), (5, .int x5)]) rfl ?_
  refine G_ltv (fun v => [(6, .int v), (0, .ref (g_b X + 63)), (2, .int x2), (3, .int x3), (4, .int x4), (5, .int x5)]) (fun v1 => ?_)
  refine G_goto C dX9_mostAmong_85 (tgt := 36) (by decide) ?_
  exact G_sub (hk36 x2 x3 x4 x5 v1 σ) [1, 2, 3, 4, 5, 0] rfl
set_option maxHeartbeats 4000000 in
set_option maxRecDepth 100000 in
theorem w_m_X9_mostAmong_36 {X : g_X (Int32 × g_St)} (C : g_C X cX9_mostAmong RX9 wsX9_mostAmong rm_m_X9_mostAmong 7) (q : g_qI X) (hA : g_ag L_m_X9_mostAmong (g_n X) (g_T X)) (N : Nat) : ∀ (fu : Nat) (x2 : Int32) (x3 : Int32) (x4 : Int32) (x5 : Int32) (x6 : Int32) (σ : g_St), G X 36 [(0, .ref (g_b X + 63)), (2, .int x2), (3, .int x3), (4, .int x4), (5, .int x5), (6, .int x6)] [] σ (m_X9_mostAmong_36 N fu x2 x3 x4 x5 x6 σ) := by
  have t63 := g_ag_at hA (c := 63) rfl tc63
  have t64 := g_ag_at hA (c := 64) rfl tc64
  have t65 := g_ag_at hA (c := 65) rfl tc65
  intro fu
  induction fu with
  | zero => intro x2 x3 x4 x5 x6 σ; exact G_none
  | succ fu ih =>
    intro x2 x3 x4 x5 x6 σ
    unfold m_X9_mostAmong_36
    refine G_iload C dX9_mostAmong_36 5 rfl ?_
    refine G_iload_n C dX9_mostAmong_38 rfl 1 rfl ?_
    refine G_icmp_ge C dX9_mostAmong_39 (tgt := 88) (by decide) (fun c1 => ?_) (fun c1 => ?_)
    · refine G_iload C dX9_mostAmong_88 4 rfl ?_
      exact G_iret C q dX9_mostAmong_90
    · refine G_iload C dX9_mostAmong_42 3 rfl ?_
      refine G_aload_n C dX9_mostAmong_44 rfl 0 rfl ?_
      refine G_getR C f_X9_mostAmong_9 t63 rfl dX9_mostAmong_45 ?_
      refine G_iload_n C dX9_mostAmong_48 rfl 2 rfl ?_
      refine G_chk (fun h2 => ?_)
      refine G_ald C t64 h2 dX9_mostAmong_49 ?_
      refine G_iand C dX9_mostAmong_50 ?_
      refine G_iload C dX9_mostAmong_51 5 rfl ?_
      refine G_callI (rest := []) (fun a ha => g_runSN C (nargs := 2) (As := [.int (x4 &&& (σ.1 64 x3.toNatClampNeg)), .int x6]) (rest := []) (host := "BirthdayLot") gX9_mostAmong_X10_holds_n59 rfl n_X9_mostAmong_59 w_X9_mostAmong_59 (by decide +kernel) rfl rfl rfl dX9_mostAmong_53 (k_m_X10_holds X.1.2.1 X.2.1 (g_n X) (g_T X) (g_ag_sub hA (by decide +kernel)) (x4 &&& (σ.1 64 x3.toNatClampNeg)) x6 σ a ha)) (fun q3 => ?_)
      refine G_if_eq C dX9_mostAmong_56 (tgt := 82) (by decide) (fun c4 => ?_) (fun c4 => ?_)
      · exact w_m_X9_mostAmong_82 C q hA (m_X9_mostAmong_36 N fu) ih N x2 x3 x4 x5 x6 q3.2
      · refine G_iload C dX9_mostAmong_59 4 rfl ?_
        refine G_iconst C dX9_mostAmong_61 (v := 1) (by decide +kernel) ?_
        refine G_aload_n C dX9_mostAmong_62 rfl 0 rfl ?_
        refine G_getR C f_X9_mostAmong_15 t63 rfl dX9_mostAmong_63 ?_
        refine G_iload C dX9_mostAmong_66 3 rfl ?_
        refine G_iconst C dX9_mostAmong_68 (v := 1) (by decide +kernel) ?_
        refine G_iload C dX9_mostAmong_69 5 rfl ?_
        refine G_ishl C dX9_mostAmong_71 ?_
        refine G_iconst C dX9_mostAmong_72 (v := -1) (by decide +kernel) ?_
        refine G_ixor C dX9_mostAmong_73 ?_
        refine G_iand C dX9_mostAmong_74 ?_
        refine G_chk (fun h5 => ?_)
        refine G_ald C t65 h5 dX9_mostAmong_75 ?_
        refine G_iadd C dX9_mostAmong_76 ?_
        refine G_mmax C w_X9_mostAmong_63 rfl dX9_mostAmong_77 ?_
        refine G_lti (fun v6 => ?_)
        refine G_istore C dX9_mostAmong_80 rfl (lv' := [(5, .int v6), (0, .ref (g_b X + 63)), (2, .int x2), (3, .int x3), (4, .int x4), (6, .int x6)]) rfl ?_
        exact G_sub (w_m_X9_mostAmong_82 C q hA (m_X9_mostAmong_36 N fu) ih N x2 x3 x4 v6 x6 q3.2) [1, 2, 3, 4, 0, 5] rfl
set_option maxHeartbeats 4000000 in
set_option maxRecDepth 100000 in
theorem w_m_X9_mostAmong_0 {X : g_X (Int32 × g_St)} (C : g_C X cX9_mostAmong RX9 wsX9_mostAmong rm_m_X9_mostAmong 7) (q : g_qI X) (hA : g_ag L_m_X9_mostAmong (g_n X) (g_T X)) (N : Nat) (x1 : Int32) (x2 : Int32) (σ : g_St) : G X 0 [(0, .ref (g_b X + 63)), (1, .int x1), (2, .int x2)] [] σ (m_X9_mostAmong N x1 x2 σ) := by
  have t63 := g_ag_at hA (c := 63) rfl tc63
  have t65 := g_ag_at hA (c := 65) rfl tc65
  unfold m_X9_mostAmong
  refine G_iload_n C dX9_mostAmong_0 rfl 1 rfl ?_
  refine G_iload_n C dX9_mostAmong_1 rfl 2 rfl ?_
  refine G_callI (rest := []) (fun a ha => g_runS C (nargs := 2) (As := [.int x1, .int x2]) (rest := []) gX9_mostAmong_X9_firstOf rfl (by decide +kernel) rfl rfl rfl dX9_mostAmong_2 (k_m_X9_firstOf X.1.2.1 X.2.1 (g_n X) (g_T X) (g_ag_sub hA (by decide +kernel)) N x1 x2 σ a ha)) (fun q1 => ?_)
  refine G_istore_n C dX9_mostAmong_5 rfl rfl (lv' := [(3, .int q1.1), (0, .ref (g_b X + 63)), (1, .int x1), (2, .int x2)]) rfl ?_
  refine G_iload_n C dX9_mostAmong_6 rfl 0 rfl ?_
  refine G_iconst C dX9_mostAmong_7 (v := -1) (by decide +kernel) ?_
  refine G_icmp_ne C dX9_mostAmong_8 (tgt := 13) (by decide) (fun c2 => ?_) (fun c2 => ?_)
  · refine G_iconst C dX9_mostAmong_11 (v := 0) (by decide +kernel) ?_
    exact G_iret C q dX9_mostAmong_12
  · refine G_iload_n C dX9_mostAmong_13 rfl 2 rfl ?_
    refine G_iconst C dX9_mostAmong_14 (v := 1) (by decide +kernel) ?_
    refine G_iload_n C dX9_mostAmong_15 rfl 0 rfl ?_
    refine G_ishl C dX9_mostAmong_16 ?_
    refine G_iconst C dX9_mostAmong_17 (v := -1) (by decide +kernel) ?_
    refine G_ixor C dX9_mostAmong_18 ?_
    refine G_iand C dX9_mostAmong_19 ?_
    refine G_lti (fun v3 => ?_)
    refine G_istore C dX9_mostAmong_20 rfl (lv' := [(4, .int v3), (3, .int q1.1), (0, .ref (g_b X + 63)), (1, .int x1), (2, .int x2)]) rfl ?_
    refine G_aload_n C dX9_mostAmong_22 rfl 2 rfl ?_
    refine G_getR C f_X9_mostAmong_15 t63 rfl dX9_mostAmong_23 ?_
    refine G_iload C dX9_mostAmong_26 0 rfl ?_
    refine G_chk (fun h4 => ?_)
    refine G_ald C t65 h4 dX9_mostAmong_28 ?_
    refine G_lti (fun v5 => ?_)
    refine G_istore C dX9_mostAmong_29 rfl (lv' := [(5, .int v5), (4, .int v3), (3, .int q1.1), (0, .ref (g_b X + 63)), (1, .int x1), (2, .int x2)]) rfl ?_
    refine G_iload_n C dX9_mostAmong_31 rfl 2 rfl ?_
    refine G_iconst C dX9_mostAmong_32 (v := 1) (by decide +kernel) ?_
    refine G_iadd C dX9_mostAmong_33 ?_
    refine G_lti (fun v6 => ?_)
    refine G_istore C dX9_mostAmong_34 rfl (lv' := [(6, .int v6), (5, .int v5), (4, .int v3), (3, .int q1.1), (0, .ref (g_b X + 63)), (1, .int x1), (2, .int x2)]) rfl ?_
    exact G_sub (w_m_X9_mostAmong_36 C q hA N N x2 q1.1 v3 v5 v6 q1.2) [4, 6, 3, 2, 1, 0] rfl
theorem k_m_X9_mostAmong (l : Launch) (E : g_E) (n : Nat) (T : Nat → g_Sh) (hA : g_ag L_m_X9_mostAmong n T) (N : Nat) (x1 : Int32) (x2 : Int32) (σ : g_St) (a : Int32 × g_St) (h : m_X9_mostAmong N x1 x2 σ = some a) : Met l yX9_mostAmong wsX9_mostAmong rm_m_X9_mostAmong (g_Pc E n T [.ref (E.2.1 + 63), .int x1, .int x2] σ) (g_Qi E n T a) 0 0 (g_A E) :=
  g_metI (by decide +kernel) rfl rfl (Nat.le_of_ble_eq_true rfl) (fun M Qf C q => by rw [← h]; exact w_m_X9_mostAmong_0 C q hA N x1 x2 σ)
def L_m_X9_firstPartner : List Nat := [63, 64, 65]
abbrev rm_m_X9_firstPartner : Room := { frames := 1, cells := 0, slots := 0, locals := 21 }
theorem f_X9_firstPartner_15 : g_Fld wsX9_firstPartner RX9 15 9 1 := ⟨RX9, TX9, 4, rfl, by decide +kernel, by decide, by decide +kernel⟩
theorem f_X9_firstPartner_9 : g_Fld wsX9_firstPartner RX9 9 9 0 := ⟨RX9, TX9, 4, rfl, by decide +kernel, by decide, by decide +kernel⟩
theorem n_X9_firstPartner_59 : Cond.methodLinkNest RX9 59 yX10_holds "BirthdayLot" ∈ g_nest := by decide +kernel
theorem w_X9_firstPartner_59 : Cond.static yX10_holds ∈ wsX9_firstPartner ∧ Cond.initialized (MethodName.cls yX10_holds) ∈ wsX9_firstPartner := ⟨by decide +kernel, by decide +kernel⟩
set_option maxHeartbeats 4000000 in
set_option maxRecDepth 100000 in
theorem w_m_X9_firstPartner_50 {X : g_X (Int32 × g_St)} (C : g_C X cX9_firstPartner RX9 wsX9_firstPartner rm_m_X9_firstPartner 6) (q : g_qI X) (hA : g_ag L_m_X9_firstPartner (g_n X) (g_T X)) (k5 : Int32 → Int32 → Int32 → Int32 → Int32 → g_St → Option (Int32 × g_St)) (hk5 : ∀ (x1 : Int32) (x2 : Int32) (x3 : Int32) (x4 : Int32) (x5 : Int32) (σ : g_St), G X 5 [(0, .ref (g_b X + 63)), (1, .int x1), (2, .int x2), (3, .int x3), (4, .int x4), (5, .int x5)] [] σ (k5 x1 x2 x3 x4 x5 σ)) (N : Nat) (x1 : Int32) (x2 : Int32) (x3 : Int32) (x4 : Int32) (x5 : Int32) (σ : g_St) : G X 50 [(0, .ref (g_b X + 63)), (1, .int x1), (2, .int x2), (3, .int x3), (4, .int x4), (5, .int x5)] [] σ (m_X9_firstPartner_50 k5 N x1 x2 x3 x4 x5 σ) := by
  unfold m_X9_firstPartner_50
  refine G_iinc C dX9_firstPartner_50 5 rfl (v := (x5 + (1 : Int32))) (by rfl) rfl (lv' := [(5, .int (x5 + (1 : Int32))), (0, .ref (g_b X + 63)), (1, .int x1), (2, .int x2), (3, .int x3), (4, .int x4)]) rfl ?_
  refine G_ltv (fun v => [(5, .int v), (0, .ref (g_b X + 63)), (1, .int x1), (2, .int x2), (3, .int x3), (4, .int x4)]) (fun v1 => ?_)
  refine G_goto C dX9_firstPartner_53 (tgt := 5) (by decide) ?_
  exact G_sub (hk5 x1 x2 x3 x4 v1 σ) [1, 2, 3, 4, 5, 0] rfl
set_option maxHeartbeats 4000000 in
set_option maxRecDepth 100000 in
theorem w_m_X9_firstPartner_5 {X : g_X (Int32 × g_St)} (C : g_C X cX9_firstPartner RX9 wsX9_firstPartner rm_m_X9_firstPartner 6) (q : g_qI X) (hA : g_ag L_m_X9_firstPartner (g_n X) (g_T X)) (N : Nat) : ∀ (fu : Nat) (x1 : Int32) (x2 : Int32) (x3 : Int32) (x4 : Int32) (x5 : Int32) (σ : g_St), G X 5 [(0, .ref (g_b X + 63)), (1, .int x1), (2, .int x2), (3, .int x3), (4, .int x4), (5, .int x5)] [] σ (m_X9_firstPartner_5 N fu x1 x2 x3 x4 x5 σ) := by
  have t63 := g_ag_at hA (c := 63) rfl tc63
  have t64 := g_ag_at hA (c := 64) rfl tc64
  have t65 := g_ag_at hA (c := 65) rfl tc65
  intro fu
  induction fu with
  | zero => intro x1 x2 x3 x4 x5 σ; exact G_none
  | succ fu ih =>
    intro x1 x2 x3 x4 x5 σ
    unfold m_X9_firstPartner_5
    refine G_iload C dX9_firstPartner_5 5 rfl ?_
    refine G_iload C dX9_firstPartner_7 4 rfl ?_
    refine G_icmp_ge C dX9_firstPartner_9 (tgt := 56) (by decide) (fun c1 => ?_) (fun c1 => ?_)
    · refine G_iconst C dX9_firstPartner_56 (v := -1) (by decide +kernel) ?_
      exact G_iret C q dX9_firstPartner_57
    · refine G_iload_n C dX9_firstPartner_12 rfl 2 rfl ?_
      refine G_aload_n C dX9_firstPartner_13 rfl 0 rfl ?_
      refine G_getR C f_X9_firstPartner_9 t63 rfl dX9_firstPartner_14 ?_
      refine G_iload_n C dX9_firstPartner_17 rfl 1 rfl ?_
      refine G_chk (fun h2 => ?_)
      refine G_ald C t64 h2 dX9_firstPartner_18 ?_
      refine G_iand C dX9_firstPartner_19 ?_
      refine G_iload C dX9_firstPartner_20 5 rfl ?_
      refine G_callI (rest := []) (fun a ha => g_runSN C (nargs := 2) (As := [.int (x2 &&& (σ.1 64 x1.toNatClampNeg)), .int x5]) (rest := []) (host := "BirthdayLot") gX9_firstPartner_X10_holds_n59 rfl n_X9_firstPartner_59 w_X9_firstPartner_59 (by decide +kernel) rfl rfl rfl dX9_firstPartner_22 (k_m_X10_holds X.1.2.1 X.2.1 (g_n X) (g_T X) (g_ag_sub hA (by decide +kernel)) (x2 &&& (σ.1 64 x1.toNatClampNeg)) x5 σ a ha)) (fun q3 => ?_)
      refine G_if_eq C dX9_firstPartner_25 (tgt := 50) (by decide) (fun c4 => ?_) (fun c4 => ?_)
      · exact w_m_X9_firstPartner_50 C q hA (m_X9_firstPartner_5 N fu) ih N x1 x2 x3 x4 x5 q3.2
      · refine G_iconst C dX9_firstPartner_28 (v := 1) (by decide +kernel) ?_
        refine G_aload_n C dX9_firstPartner_29 rfl 0 rfl ?_
        refine G_getR C f_X9_firstPartner_15 t63 rfl dX9_firstPartner_30 ?_
        refine G_iload_n C dX9_firstPartner_33 rfl 2 rfl ?_
        refine G_iconst C dX9_firstPartner_34 (v := 1) (by decide +kernel) ?_
        refine G_iload C dX9_firstPartner_35 5 rfl ?_
        refine G_ishl C dX9_firstPartner_37 ?_
        refine G_iconst C dX9_firstPartner_38 (v := -1) (by decide +kernel) ?_
        refine G_ixor C dX9_firstPartner_39 ?_
        refine G_iand C dX9_firstPartner_40 ?_
        refine G_chk (fun h5 => ?_)
        refine G_ald C t65 h5 dX9_firstPartner_41 ?_
        refine G_iadd C dX9_firstPartner_42 ?_
        refine G_iload_n C dX9_firstPartner_43 rfl 3 rfl ?_
        refine G_icmp_ne C dX9_firstPartner_44 (tgt := 50) (by decide) (fun c6 => ?_) (fun c6 => ?_)
        · refine G_iload C dX9_firstPartner_47 5 rfl ?_
          exact G_iret C q dX9_firstPartner_49
        · exact w_m_X9_firstPartner_50 C q hA (m_X9_firstPartner_5 N fu) ih N x1 x2 x3 x4 x5 q3.2
set_option maxHeartbeats 4000000 in
set_option maxRecDepth 100000 in
theorem w_m_X9_firstPartner_0 {X : g_X (Int32 × g_St)} (C : g_C X cX9_firstPartner RX9 wsX9_firstPartner rm_m_X9_firstPartner 6) (q : g_qI X) (hA : g_ag L_m_X9_firstPartner (g_n X) (g_T X)) (N : Nat) (x1 : Int32) (x2 : Int32) (x3 : Int32) (x4 : Int32) (σ : g_St) : G X 0 [(0, .ref (g_b X + 63)), (1, .int x1), (2, .int x2), (3, .int x3), (4, .int x4)] [] σ (m_X9_firstPartner N x1 x2 x3 x4 σ) := by
  unfold m_X9_firstPartner
  refine G_iload_n C dX9_firstPartner_0 rfl 1 rfl ?_
  refine G_iconst C dX9_firstPartner_1 (v := 1) (by decide +kernel) ?_
  refine G_iadd C dX9_firstPartner_2 ?_
  refine G_lti (fun v1 => ?_)
  refine G_istore C dX9_firstPartner_3 rfl (lv' := [(5, .int v1), (0, .ref (g_b X + 63)), (1, .int x1), (2, .int x2), (3, .int x3), (4, .int x4)]) rfl ?_
  exact G_sub (w_m_X9_firstPartner_5 C q hA N N x1 x2 x3 x4 v1 σ) [1, 2, 3, 4, 5, 0] rfl
theorem k_m_X9_firstPartner (l : Launch) (E : g_E) (n : Nat) (T : Nat → g_Sh) (hA : g_ag L_m_X9_firstPartner n T) (N : Nat) (x1 : Int32) (x2 : Int32) (x3 : Int32) (x4 : Int32) (σ : g_St) (a : Int32 × g_St) (h : m_X9_firstPartner N x1 x2 x3 x4 σ = some a) : Met l yX9_firstPartner wsX9_firstPartner rm_m_X9_firstPartner (g_Pc E n T [.ref (E.2.1 + 63), .int x1, .int x2, .int x3, .int x4] σ) (g_Qi E n T a) 0 0 (g_A E) :=
  g_metI (by decide +kernel) rfl rfl (Nat.le_of_ble_eq_true rfl) (fun M Qf C q => by rw [← h]; exact w_m_X9_firstPartner_0 C q hA N x1 x2 x3 x4 σ)
def L_m_J7_fill_66 : List Nat := [66]
abbrev rm_m_J7_fill_66 : Room := { frames := 0, cells := 0, slots := 0, locals := 0 }
set_option maxHeartbeats 4000000 in
set_option maxRecDepth 100000 in
theorem w_m_J7_fill_66_5 {X : g_X (g_St)} (C : g_C X cJ7_fill_53178 RJ7 wsJ7_fill_53178 rm_m_J7_fill_66 4) (q : g_qV X) (hA : g_ag L_m_J7_fill_66 (g_n X) (g_T X)) (N : Nat) : ∀ (fu : Nat) (x1 : Int32) (x2 : Int32) (x3 : Int32) (σ : g_St), G X 5 [(0, .ref (g_b X + 66)), (1, .int x1), (2, .int x2), (3, .int x3)] [] σ (m_J7_fill_66_5 N fu x1 x2 x3 σ) := by
  have t66 := g_ag_at hA (c := 66) rfl tc66
  intro fu
  induction fu with
  | zero => intro x1 x2 x3 σ; exact G_none
  | succ fu ih =>
    intro x1 x2 x3 σ
    unfold m_J7_fill_66_5
    refine G_iload_n C dJ7_fill_53178_5 rfl 2 rfl ?_
    refine G_iload_n C dJ7_fill_53178_6 rfl 3 rfl ?_
    refine G_icmp_ge C dJ7_fill_53178_7 (tgt := 20) (by decide) (fun c1 => ?_) (fun c1 => ?_)
    · exact G_vret C q dJ7_fill_53178_20
    · refine G_aload_n C dJ7_fill_53178_10 rfl 0 rfl ?_
      refine G_iload_n C dJ7_fill_53178_11 rfl 2 rfl ?_
      refine G_iload_n C dJ7_fill_53178_12 rfl 1 rfl ?_
      refine G_chk (fun h2 => ?_)
      refine G_ast C t66 h2 dJ7_fill_53178_13 ?_
      refine G_lts (fun σ3 => ?_)
      refine G_iinc C dJ7_fill_53178_14 2 rfl (v := (x2 + (1 : Int32))) (by rfl) rfl (lv' := [(2, .int (x2 + (1 : Int32))), (0, .ref (g_b X + 66)), (1, .int x1), (3, .int x3)]) rfl ?_
      refine G_ltv (fun v => [(2, .int v), (0, .ref (g_b X + 66)), (1, .int x1), (3, .int x3)]) (fun v4 => ?_)
      refine G_goto C dJ7_fill_53178_17 (tgt := 5) (by decide) ?_
      exact G_sub (ih x1 v4 x3 σ3) [1, 2, 0, 3] rfl
set_option maxHeartbeats 4000000 in
set_option maxRecDepth 100000 in
theorem w_m_J7_fill_66_0 {X : g_X (g_St)} (C : g_C X cJ7_fill_53178 RJ7 wsJ7_fill_53178 rm_m_J7_fill_66 4) (q : g_qV X) (hA : g_ag L_m_J7_fill_66 (g_n X) (g_T X)) (N : Nat) (x1 : Int32) (σ : g_St) : G X 0 [(0, .ref (g_b X + 66)), (1, .int x1)] [] σ (m_J7_fill_66 N x1 σ) := by
  have t66 := g_ag_at hA (c := 66) rfl tc66
  unfold m_J7_fill_66
  refine G_iconst C dJ7_fill_53178_0 (v := 0) (by decide +kernel) ?_
  refine G_istore_n C dJ7_fill_53178_1 rfl rfl (lv' := [(2, .int (0 : Int32)), (0, .ref (g_b X + 66)), (1, .int x1)]) rfl ?_
  refine G_aload_n C dJ7_fill_53178_2 rfl 1 rfl ?_
  refine G_alen C t66 (v := 6) (by decide +kernel) dJ7_fill_53178_3 ?_
  refine G_istore_n C dJ7_fill_53178_4 rfl rfl (lv' := [(3, .int (6 : Int32)), (2, .int (0 : Int32)), (0, .ref (g_b X + 66)), (1, .int x1)]) rfl ?_
  exact G_sub (w_m_J7_fill_66_5 C q hA N N x1 (0 : Int32) (6 : Int32) σ) [2, 3, 1, 0] rfl
theorem k_m_J7_fill_66 (l : Launch) (E : g_E) (n : Nat) (T : Nat → g_Sh) (hA : g_ag L_m_J7_fill_66 n T) (N : Nat) (x1 : Int32) (σ : g_St) (a : g_St) (h : m_J7_fill_66 N x1 σ = some a) : Met l yJ7_fill_53178 wsJ7_fill_53178 rm_m_J7_fill_66 (g_Pc E n T [.ref (E.2.1 + 66), .int x1] σ) (g_Qv E n T a) 0 0 (g_A E) :=
  g_metV (by decide +kernel) rfl rfl (Nat.le_of_ble_eq_true rfl) (fun M Qf C q => by rw [← h]; exact w_m_J7_fill_66_0 C q hA N x1 σ)
def L_m_X9_choose : List Nat := [63, 64, 65, 66]
abbrev rm_m_X9_choose : Room := { frames := 2, cells := 0, slots := 0, locals := 46 }
theorem f_X9_choose_15 : g_Fld wsX9_choose RX9 15 9 1 := ⟨RX9, TX9, 4, rfl, by decide +kernel, by decide, by decide +kernel⟩
theorem f_X9_choose_18 : g_Fld wsX9_choose RX9 18 9 2 := ⟨RX9, TX9, 4, rfl, by decide +kernel, by decide, by decide +kernel⟩
theorem n_X9_choose_59 : Cond.methodLinkNest RX9 59 yX10_holds "BirthdayLot" ∈ g_nest := by decide +kernel
theorem w_X9_choose_59 : Cond.static yX10_holds ∈ wsX9_choose ∧ Cond.initialized (MethodName.cls yX10_holds) ∈ wsX9_choose := ⟨by decide +kernel, by decide +kernel⟩
set_option maxHeartbeats 4000000 in
set_option maxRecDepth 100000 in
theorem w_m_X9_choose_96 {X : g_X (g_St)} (C : g_C X cX9_choose RX9 wsX9_choose rm_m_X9_choose 7) (q : g_qV X) (hA : g_ag L_m_X9_choose (g_n X) (g_T X)) (k13 : Int32 → Int32 → Int32 → g_St → Option (g_St)) (hk13 : ∀ (x2 : Int32) (x3 : Int32) (x4 : Int32) (σ : g_St), G X 13 [(0, .ref (g_b X + 63)), (2, .int x2), (3, .int x3), (4, .int x4)] [] σ (k13 x2 x3 x4 σ)) (N : Nat) (x2 : Int32) (x3 : Int32) (x4 : Int32) (σ : g_St) : G X 96 [(0, .ref (g_b X + 63)), (2, .int x2), (3, .int x3), (4, .int x4)] [] σ (m_X9_choose_96 k13 N x2 x3 x4 σ) := by
  unfold m_X9_choose_96
  refine G_iinc C dX9_choose_96 3 rfl (v := (x4 + (1 : Int32))) (by rfl) rfl (lv' := [(4, .int (x4 + (1 : Int32))), (0, .ref (g_b X + 63)), (2, .int x2), (3, .int x3)]) rfl ?_
  refine G_ltv (fun v => [(4, .int v), (0, .ref (g_b X + 63)), (2, .int x2), (3, .int x3)]) (fun v1 => ?_)
  refine G_goto C dX9_choose_99 (tgt := 13) (by decide) ?_
  exact G_sub (hk13 x2 x3 v1 σ) [1, 2, 3, 0] rfl
set_option maxHeartbeats 4000000 in
set_option maxRecDepth 100000 in
theorem w_m_X9_choose_93 {X : g_X (g_St)} (C : g_C X cX9_choose RX9 wsX9_choose rm_m_X9_choose 7) (q : g_qV X) (hA : g_ag L_m_X9_choose (g_n X) (g_T X)) (k13 : Int32 → Int32 → Int32 → g_St → Option (g_St)) (hk13 : ∀ (x2 : Int32) (x3 : Int32) (x4 : Int32) (σ : g_St), G X 13 [(0, .ref (g_b X + 63)), (2, .int x2), (3, .int x3), (4, .int x4)] [] σ (k13 x2 x3 x4 σ)) (N : Nat) (x2 : Int32) (x4 : Int32) (x5 : Int32) (σ : g_St) : G X 93 [(0, .ref (g_b X + 63)), (2, .int x2), (4, .int x4), (5, .int x5)] [] σ (m_X9_choose_93 k13 N x2 x4 x5 σ) := by
  unfold m_X9_choose_93
  refine G_iload C dX9_choose_93 3 rfl ?_
  refine G_istore_n C dX9_choose_95 rfl rfl (lv' := [(3, .int x5), (0, .ref (g_b X + 63)), (2, .int x2), (4, .int x4), (5, .int x5)]) rfl ?_
  exact G_sub (w_m_X9_choose_96 C q hA k13 hk13 N x2 x5 x4 σ) [1, 2, 0, 3] rfl
set_option maxHeartbeats 4000000 in
set_option maxRecDepth 100000 in
theorem w_m_X9_choose_13 {X : g_X (g_St)} (C : g_C X cX9_choose RX9 wsX9_choose rm_m_X9_choose 7) (q : g_qV X) (hA : g_ag L_m_X9_choose (g_n X) (g_T X)) (N : Nat) : ∀ (fu : Nat) (x2 : Int32) (x3 : Int32) (x4 : Int32) (σ : g_St), G X 13 [(0, .ref (g_b X + 63)), (2, .int x2), (3, .int x3), (4, .int x4)] [] σ (m_X9_choose_13 N fu x2 x3 x4 σ) := by
  have t63 := g_ag_at hA (c := 63) rfl tc63
  have t65 := g_ag_at hA (c := 65) rfl tc65
  have t66 := g_ag_at hA (c := 66) rfl tc66
  intro fu
  induction fu with
  | zero => intro x2 x3 x4 σ; exact G_none
  | succ fu ih =>
    intro x2 x3 x4 σ
    unfold m_X9_choose_13
    refine G_iload C dX9_choose_13 3 rfl ?_
    refine G_iload_n C dX9_choose_15 rfl 1 rfl ?_
    refine G_icmp_ge C dX9_choose_16 (tgt := 102) (by decide) (fun c1 => ?_) (fun c1 => ?_)
    · exact G_vret C q dX9_choose_102
    · refine G_iload_n C dX9_choose_19 rfl 2 rfl ?_
      refine G_iload C dX9_choose_20 3 rfl ?_
      refine G_callI (rest := []) (fun a ha => g_runSN C (nargs := 2) (As := [.int x3, .int x4]) (rest := []) (host := "BirthdayLot") gX9_choose_X10_holds_n59 rfl n_X9_choose_59 w_X9_choose_59 (by decide +kernel) rfl rfl rfl dX9_choose_22 (k_m_X10_holds X.1.2.1 X.2.1 (g_n X) (g_T X) (g_ag_sub hA (by decide +kernel)) x3 x4 σ a ha)) (fun q2 => ?_)
      refine G_if_ne C dX9_choose_25 (tgt := 31) (by decide) (fun c3 => ?_) (fun c3 => ?_)
      · refine G_goto C dX9_choose_28 (tgt := 96) (by decide) ?_
        exact w_m_X9_choose_96 C q hA (m_X9_choose_13 N fu) ih N x2 x3 x4 q2.2
      · refine G_iload_n C dX9_choose_31 rfl 2 rfl ?_
        refine G_iconst C dX9_choose_32 (v := 1) (by decide +kernel) ?_
        refine G_iload C dX9_choose_33 3 rfl ?_
        refine G_ishl C dX9_choose_35 ?_
        refine G_iconst C dX9_choose_36 (v := -1) (by decide +kernel) ?_
        refine G_ixor C dX9_choose_37 ?_
        refine G_iand C dX9_choose_38 ?_
        refine G_lti (fun v4 => ?_)
        refine G_istore C dX9_choose_39 rfl (lv' := [(5, .int v4), (0, .ref (g_b X + 63)), (2, .int x2), (3, .int x3), (4, .int x4)]) rfl ?_
        refine G_aload_n C dX9_choose_41 rfl 1 rfl ?_
        refine G_iload C dX9_choose_42 4 rfl ?_
        refine G_iload C dX9_choose_44 0 rfl ?_
        refine G_aload_n C dX9_choose_46 rfl 1 rfl ?_
        refine G_getR C f_X9_choose_15 t63 rfl dX9_choose_47 ?_
        refine G_iload_n C dX9_choose_50 rfl 3 rfl ?_
        refine G_chk (fun h5 => ?_)
        refine G_ald C t65 h5 dX9_choose_51 ?_
        refine G_iload_n C dX9_choose_52 rfl 2 rfl ?_
        refine G_callI (rest := []) (fun a ha => g_runV C (nargs := 4) (As := [.int x4, .int v4, .int (q2.2.1 65 x3.toNatClampNeg), .int x2]) (rest := []) gX9_choose_X9_firstPartner rfl (by decide +kernel) rfl t63 rfl rfl rfl rfl dX9_choose_53 (k_m_X9_firstPartner X.1.2.1 X.2.1 (g_n X) (g_T X) (g_ag_sub hA (by decide +kernel)) N x4 v4 (q2.2.1 65 x3.toNatClampNeg) x2 q2.2 a ha)) (fun q6 => ?_)
        refine G_istore C dX9_choose_56 rfl (lv' := [(6, .int q6.1), (5, .int v4), (0, .ref (g_b X + 63)), (2, .int x2), (3, .int x3), (4, .int x4)]) rfl ?_
        refine G_iload C dX9_choose_58 0 rfl ?_
        refine G_iconst C dX9_choose_60 (v := -1) (by decide +kernel) ?_
        refine G_icmp_eq C dX9_choose_61 (tgt := 93) (by decide) (fun c7 => ?_) (fun c7 => ?_)
        · exact G_sub (w_m_X9_choose_93 C q hA (m_X9_choose_13 N fu) ih N x2 x4 v4 q6.2) [2, 3, 5, 1] rfl
        · refine G_aload_n C dX9_choose_64 rfl 2 rfl ?_
          refine G_getR C f_X9_choose_18 t63 rfl dX9_choose_65 ?_
          refine G_iload C dX9_choose_68 5 rfl ?_
          refine G_iload C dX9_choose_70 0 rfl ?_
          refine G_chk (fun h8 => ?_)
          refine G_ast C t66 h8 dX9_choose_72 ?_
          refine G_lts (fun σ9 => ?_)
          refine G_aload_n C dX9_choose_73 rfl 2 rfl ?_
          refine G_getR C f_X9_choose_18 t63 rfl dX9_choose_74 ?_
          refine G_iload C dX9_choose_77 0 rfl ?_
          refine G_iload C dX9_choose_79 5 rfl ?_
          refine G_chk (fun h10 => ?_)
          refine G_ast C t66 h10 dX9_choose_81 ?_
          refine G_lts (fun σ11 => ?_)
          refine G_iload C dX9_choose_82 1 rfl ?_
          refine G_iconst C dX9_choose_84 (v := 1) (by decide +kernel) ?_
          refine G_iload C dX9_choose_85 0 rfl ?_
          refine G_ishl C dX9_choose_87 ?_
          refine G_iconst C dX9_choose_88 (v := -1) (by decide +kernel) ?_
          refine G_ixor C dX9_choose_89 ?_
          refine G_iand C dX9_choose_90 ?_
          refine G_lti (fun v12 => ?_)
          refine G_istore C dX9_choose_91 rfl (lv' := [(5, .int v12), (6, .int q6.1), (0, .ref (g_b X + 63)), (2, .int x2), (3, .int x3), (4, .int x4)]) rfl ?_
          exact G_sub (w_m_X9_choose_93 C q hA (m_X9_choose_13 N fu) ih N x2 x4 v12 σ11) [2, 3, 5, 0] rfl
set_option maxHeartbeats 4000000 in
set_option maxRecDepth 100000 in
theorem w_m_X9_choose_0 {X : g_X (g_St)} (C : g_C X cX9_choose RX9 wsX9_choose rm_m_X9_choose 7) (q : g_qV X) (hA : g_ag L_m_X9_choose (g_n X) (g_T X)) (N : Nat) (x1 : Int32) (x2 : Int32) (σ : g_St) : G X 0 [(0, .ref (g_b X + 63)), (1, .int x1), (2, .int x2)] [] σ (m_X9_choose N x1 x2 σ) := by
  have t63 := g_ag_at hA (c := 63) rfl tc63
  unfold m_X9_choose
  refine G_aload_n C dX9_choose_0 rfl 0 rfl ?_
  refine G_getR C f_X9_choose_18 t63 rfl dX9_choose_1 ?_
  refine G_iconst C dX9_choose_4 (v := -1) (by decide +kernel) ?_
  refine G_callV (rest := []) (fun a ha => g_runS C (nargs := 2) (As := [.ref (g_b X + 66), .int (-1 : Int32)]) (rest := []) gX9_choose_J7_fill_53178 rfl (by decide +kernel) rfl rfl rfl dX9_choose_5 (k_m_J7_fill_66 X.1.2.1 X.2.1 (g_n X) (g_T X) (g_ag_sub hA (by decide +kernel)) N (-1 : Int32) σ a ha)) (fun σ1 => ?_)
  refine G_iload_n C dX9_choose_8 rfl 1 rfl ?_
  refine G_istore_n C dX9_choose_9 rfl rfl (lv' := [(3, .int x1), (0, .ref (g_b X + 63)), (1, .int x1), (2, .int x2)]) rfl ?_
  refine G_iconst C dX9_choose_10 (v := 0) (by decide +kernel) ?_
  refine G_istore C dX9_choose_11 rfl (lv' := [(4, .int (0 : Int32)), (3, .int x1), (0, .ref (g_b X + 63)), (1, .int x1), (2, .int x2)]) rfl ?_
  exact G_sub (w_m_X9_choose_13 C q hA N N x2 x1 (0 : Int32) σ1) [2, 4, 1, 0] rfl
theorem k_m_X9_choose (l : Launch) (E : g_E) (n : Nat) (T : Nat → g_Sh) (hA : g_ag L_m_X9_choose n T) (N : Nat) (x1 : Int32) (x2 : Int32) (σ : g_St) (a : g_St) (h : m_X9_choose N x1 x2 σ = some a) : Met l yX9_choose wsX9_choose rm_m_X9_choose (g_Pc E n T [.ref (E.2.1 + 63), .int x1, .int x2] σ) (g_Qv E n T a) 0 0 (g_A E) :=
  g_metV (by decide +kernel) rfl rfl (Nat.le_of_ble_eq_true rfl) (fun M Qf C q => by rw [← h]; exact w_m_X9_choose_0 C q hA N x1 x2 σ)
def L_m_X9_match : List Nat := [13, 15, 16, 17, 63, 64, 65, 66]
abbrev rm_m_X9_match : Room := { frames := 3, cells := 0, slots := 0, locals := 72 }
theorem f_X9_match_15 : g_Fld wsX9_match RX9 15 9 1 := ⟨RX9, TX9, 4, rfl, by decide +kernel, by decide, by decide +kernel⟩
theorem f_X9_match_25 : g_Fld wsX9_match RX9 25 7 2 := ⟨RX7, TX7, 6, rfl, by decide +kernel, by decide, by decide +kernel⟩
theorem f_X9_match_9 : g_Fld wsX9_match RX9 9 9 0 := ⟨RX9, TX9, 4, rfl, by decide +kernel, by decide, by decide +kernel⟩
theorem p_X9_match_21 : g_FldP wsX9_match RX9 21 9 3 .int := ⟨RX9, TX9, 4, tyX9, rfl, by decide +kernel, by decide, by decide +kernel, tyX9_ok, nmX9, rfl, by decide +kernel⟩
set_option maxHeartbeats 4000000 in
set_option maxRecDepth 100000 in
theorem w_m_X9_match_46 {X : g_X (g_St)} (C : g_C X cX9_match RX9 wsX9_match rm_m_X9_match 6) (q : g_qV X) (hA : g_ag L_m_X9_match (g_n X) (g_T X)) (N : Nat) : ∀ (fu : Nat) (x4 : Int32) (x5 : Int32) (σ : g_St), G X 46 [(0, .ref (g_b X + 63)), (1, .ref (g_b X + 13)), (4, .int x4), (5, .int x5)] [] σ (m_X9_match_46 N fu x4 x5 σ) := by
  have t13 := g_ag_at hA (c := 13) rfl tc13
  have t63 := g_ag_at hA (c := 63) rfl tc63
  have t65 := g_ag_at hA (c := 65) rfl tc65
  intro fu
  induction fu with
  | zero => intro x4 x5 σ; exact G_none
  | succ fu ih =>
    intro x4 x5 σ
    unfold m_X9_match_46
    refine G_iload C dX9_match_46 3 rfl ?_
    refine G_iload C dX9_match_48 2 rfl ?_
    refine G_icmp_gt C dX9_match_50 (tgt := 76) (by decide) (fun c1 => ?_) (fun c1 => ?_)
    · refine G_aload_n C dX9_match_76 rfl 0 rfl ?_
      refine G_aload_n C dX9_match_77 rfl 0 rfl ?_
      refine G_getR C f_X9_match_15 t63 rfl dX9_match_78 ?_
      refine G_iload C dX9_match_81 2 rfl ?_
      refine G_chk (fun h2 => ?_)
      refine G_ald C t65 h2 dX9_match_83 ?_
      refine G_putI C p_X9_match_21 t63 rfl rfl rfl dX9_match_84 ?_
      refine G_lts (fun σ3 => ?_)
      refine G_aload_n C dX9_match_87 rfl 0 rfl ?_
      refine G_iload C dX9_match_88 2 rfl ?_
      refine G_aload_n C dX9_match_90 rfl 1 rfl ?_
      refine G_getI C f_X9_match_25 t13 rfl dX9_match_91 ?_
      refine G_callV (rest := []) (fun a ha => g_runV C (nargs := 2) (As := [.int x4, .int (σ3.1 13 2)]) (rest := []) gX9_match_X9_choose rfl (by decide +kernel) rfl t63 rfl rfl rfl rfl dX9_match_94 (k_m_X9_choose X.1.2.1 X.2.1 (g_n X) (g_T X) (g_ag_sub hA (by decide +kernel)) N x4 (σ3.1 13 2) σ3 a ha)) (fun σ4 => ?_)
      exact G_vret C q dX9_match_97
    · refine G_aload_n C dX9_match_53 rfl 0 rfl ?_
      refine G_getR C f_X9_match_15 t63 rfl dX9_match_54 ?_
      refine G_iload C dX9_match_57 3 rfl ?_
      refine G_aload_n C dX9_match_59 rfl 0 rfl ?_
      refine G_iload C dX9_match_60 3 rfl ?_
      refine G_aload_n C dX9_match_62 rfl 1 rfl ?_
      refine G_getI C f_X9_match_25 t13 rfl dX9_match_63 ?_
      refine G_callI (rest := [.int x5, .ref (g_b X + 65)]) (fun a ha => g_runV C (nargs := 2) (As := [.int x5, .int (σ.1 13 2)]) (rest := [.int x5, .ref (g_b X + 65)]) gX9_match_X9_mostAmong rfl (by decide +kernel) rfl t63 rfl rfl rfl rfl dX9_match_66 (k_m_X9_mostAmong X.1.2.1 X.2.1 (g_n X) (g_T X) (g_ag_sub hA (by decide +kernel)) N x5 (σ.1 13 2) σ a ha)) (fun q5 => ?_)
      refine G_chk (fun h6 => ?_)
      refine G_ast C t65 h6 dX9_match_69 ?_
      refine G_lts (fun σ7 => ?_)
      refine G_iinc C dX9_match_70 3 rfl (v := (x5 + (1 : Int32))) (by rfl) rfl (lv' := [(5, .int (x5 + (1 : Int32))), (0, .ref (g_b X + 63)), (1, .ref (g_b X + 13)), (4, .int x4)]) rfl ?_
      refine G_ltv (fun v => [(5, .int v), (0, .ref (g_b X + 63)), (1, .ref (g_b X + 13)), (4, .int x4)]) (fun v8 => ?_)
      refine G_goto C dX9_match_73 (tgt := 46) (by decide) ?_
      exact G_sub (ih x4 v8 σ7) [1, 2, 3, 0] rfl
set_option maxHeartbeats 4000000 in
set_option maxRecDepth 100000 in
theorem w_m_X9_match_3 {X : g_X (g_St)} (C : g_C X cX9_match RX9 wsX9_match rm_m_X9_match 6) (q : g_qV X) (hA : g_ag L_m_X9_match (g_n X) (g_T X)) (N : Nat) : ∀ (fu : Nat) (x3 : Int32) (x4 : Int32) (σ : g_St), G X 3 [(0, .ref (g_b X + 63)), (1, .ref (g_b X + 13)), (2, .ref (g_b X + 16)), (3, .int x3), (4, .int x4)] [] σ (m_X9_match_3 N fu x3 x4 σ) := by
  have t13 := g_ag_at hA (c := 13) rfl tc13
  have t63 := g_ag_at hA (c := 63) rfl tc63
  have t64 := g_ag_at hA (c := 64) rfl tc64
  intro fu
  induction fu with
  | zero => intro x3 x4 σ; exact G_none
  | succ fu ih =>
    intro x3 x4 σ
    unfold m_X9_match_3
    refine G_iload C dX9_match_3 4 rfl ?_
    refine G_aload_n C dX9_match_5 rfl 1 rfl ?_
    refine G_getI C f_X9_match_25 t13 rfl dX9_match_6 ?_
    refine G_icmp_ge C dX9_match_9 (tgt := 33) (by decide) (fun c1 => ?_) (fun c1 => ?_)
    · refine G_iconst C dX9_match_33 (v := 1) (by decide +kernel) ?_
      refine G_aload_n C dX9_match_34 rfl 1 rfl ?_
      refine G_getI C f_X9_match_25 t13 rfl dX9_match_35 ?_
      refine G_ishl C dX9_match_38 ?_
      refine G_iconst C dX9_match_39 (v := 1) (by decide +kernel) ?_
      refine G_isub C dX9_match_40 ?_
      refine G_lti (fun v2 => ?_)
      refine G_istore C dX9_match_41 rfl (lv' := [(4, .int v2), (0, .ref (g_b X + 63)), (1, .ref (g_b X + 13)), (2, .ref (g_b X + 16)), (3, .int x3)]) rfl ?_
      refine G_iconst C dX9_match_43 (v := 0) (by decide +kernel) ?_
      refine G_istore C dX9_match_44 rfl (lv' := [(5, .int (0 : Int32)), (4, .int v2), (0, .ref (g_b X + 63)), (1, .ref (g_b X + 13)), (2, .ref (g_b X + 16)), (3, .int x3)]) rfl ?_
      exact G_sub (w_m_X9_match_46 C q hA N N v2 (0 : Int32) σ) [2, 3, 1, 0] rfl
    · refine G_aload_n C dX9_match_12 rfl 0 rfl ?_
      refine G_getR C f_X9_match_9 t63 rfl dX9_match_13 ?_
      refine G_iload C dX9_match_16 4 rfl ?_
      refine G_aload_n C dX9_match_18 rfl 1 rfl ?_
      refine G_aload_n C dX9_match_19 rfl 2 rfl ?_
      refine G_iload C dX9_match_20 4 rfl ?_
      refine G_iload_n C dX9_match_22 rfl 3 rfl ?_
      refine G_callI (rest := [.int x4, .ref (g_b X + 64)]) (fun a ha => g_runS C (nargs := 4) (As := [.ref (g_b X + 13), .ref (g_b X + 16), .int x4, .int x3]) (rest := [.int x4, .ref (g_b X + 64)]) gX9_match_X9_fittingFor rfl (by decide +kernel) rfl rfl rfl dX9_match_23 (k_m_X9_fittingFor X.1.2.1 X.2.1 (g_n X) (g_T X) (g_ag_sub hA (by decide +kernel)) N x4 x3 σ a ha)) (fun q3 => ?_)
      refine G_chk (fun h4 => ?_)
      refine G_ast C t64 h4 dX9_match_26 ?_
      refine G_lts (fun σ5 => ?_)
      refine G_iinc C dX9_match_27 4 rfl (v := (x4 + (1 : Int32))) (by rfl) rfl (lv' := [(4, .int (x4 + (1 : Int32))), (0, .ref (g_b X + 63)), (1, .ref (g_b X + 13)), (2, .ref (g_b X + 16)), (3, .int x3)]) rfl ?_
      refine G_ltv (fun v => [(4, .int v), (0, .ref (g_b X + 63)), (1, .ref (g_b X + 13)), (2, .ref (g_b X + 16)), (3, .int x3)]) (fun v6 => ?_)
      refine G_goto C dX9_match_30 (tgt := 3) (by decide) ?_
      exact G_sub (ih x3 v6 σ5) [1, 2, 3, 4, 0] rfl
set_option maxHeartbeats 4000000 in
set_option maxRecDepth 100000 in
theorem w_m_X9_match_0 {X : g_X (g_St)} (C : g_C X cX9_match RX9 wsX9_match rm_m_X9_match 6) (q : g_qV X) (hA : g_ag L_m_X9_match (g_n X) (g_T X)) (N : Nat) (x3 : Int32) (σ : g_St) : G X 0 [(0, .ref (g_b X + 63)), (1, .ref (g_b X + 13)), (2, .ref (g_b X + 16)), (3, .int x3)] [] σ (m_X9_match N x3 σ) := by
  unfold m_X9_match
  refine G_iconst C dX9_match_0 (v := 0) (by decide +kernel) ?_
  refine G_istore C dX9_match_1 rfl (lv' := [(4, .int (0 : Int32)), (0, .ref (g_b X + 63)), (1, .ref (g_b X + 13)), (2, .ref (g_b X + 16)), (3, .int x3)]) rfl ?_
  exact G_sub (w_m_X9_match_3 C q hA N N x3 (0 : Int32) σ) [1, 2, 3, 4, 0] rfl
theorem k_m_X9_match (l : Launch) (E : g_E) (n : Nat) (T : Nat → g_Sh) (hA : g_ag L_m_X9_match n T) (N : Nat) (x3 : Int32) (σ : g_St) (a : g_St) (h : m_X9_match N x3 σ = some a) : Met l yX9_match wsX9_match rm_m_X9_match (g_Pc E n T [.ref (E.2.1 + 63), .ref (E.2.1 + 13), .ref (E.2.1 + 16), .int x3] σ) (g_Qv E n T a) 0 0 (g_A E) :=
  g_metV (by decide +kernel) rfl rfl (Nat.le_of_ble_eq_true rfl) (fun M Qf C q => by rw [← h]; exact w_m_X9_match_0 C q hA N x3 σ)
def L_m_X10_feed : List Nat := [0, 1]
abbrev rm_m_X10_feed : Room := { frames := 0, cells := 0, slots := 0, locals := 0 }
theorem f_X10_feed_86 : g_Fld wsX10_feed RX10 86 10 12 := ⟨RX10, TX10, 15, rfl, by decide +kernel, by decide, by decide +kernel⟩
theorem f_X10_feed_9 : g_Fld wsX10_feed RX10 9 10 0 := ⟨RX10, TX10, 15, rfl, by decide +kernel, by decide, by decide +kernel⟩
theorem p_X10_feed_86 : g_FldP wsX10_feed RX10 86 10 12 .int := ⟨RX10, TX10, 15, tyX10, rfl, by decide +kernel, by decide, by decide +kernel, tyX10_ok, nmX10, rfl, by decide +kernel⟩
theorem c_X10_feed_96 : Cond.constant RX10 96 (-1000000002) ∈ wsX10_feed := by decide +kernel
theorem c_X10_feed_97 : Cond.constant RX10 97 (-1000000004) ∈ wsX10_feed := by decide +kernel
set_option maxHeartbeats 4000000 in
set_option maxRecDepth 100000 in
theorem w_m_X10_feed_0 {X : g_X (Int32 × g_St)} (C : g_C X cX10_feed RX10 wsX10_feed rm_m_X10_feed 2) (q : g_qI X) (hA : g_ag L_m_X10_feed (g_n X) (g_T X)) (x1 : Int32) (σ : g_St) : G X 0 [(0, .ref (g_b X + 0)), (1, .int x1)] [] σ (m_X10_feed x1 σ) := by
  have t0 := g_ag_at hA (c := 0) rfl tc0
  have t1 := g_ag_at hA (c := 1) rfl tc1
  unfold m_X10_feed
  refine G_iload_n C dX10_feed_0 rfl 1 rfl ?_
  refine G_if_lt C dX10_feed_1 (tgt := 11) (by decide) (fun c1 => ?_) (fun c1 => ?_)
  · refine G_ldc C dX10_feed_11 c_X10_feed_96 ?_
    exact G_iret C q dX10_feed_13
  · refine G_iload_n C dX10_feed_4 rfl 1 rfl ?_
    refine G_sipush C dX10_feed_5 (v := 255) (by decide +kernel) ?_
    refine G_icmp_le C dX10_feed_8 (tgt := 14) (by decide) (fun c2 => ?_) (fun c2 => ?_)
    · refine G_aload_n C dX10_feed_14 rfl 0 rfl ?_
      refine G_getI C f_X10_feed_86 t0 rfl dX10_feed_15 ?_
      refine G_sipush C dX10_feed_18 (v := 250) (by decide +kernel) ?_
      refine G_icmp_lt C dX10_feed_21 (tgt := 27) (by decide) (fun c3 => ?_) (fun c3 => ?_)
      · refine G_aload_n C dX10_feed_27 rfl 0 rfl ?_
        refine G_getR C f_X10_feed_9 t0 rfl dX10_feed_28 ?_
        refine G_aload_n C dX10_feed_31 rfl 0 rfl ?_
        refine G_getI C f_X10_feed_86 t0 rfl dX10_feed_32 ?_
        refine G_iload_n C dX10_feed_35 rfl 1 rfl ?_
        refine G_chk (fun h4 => ?_)
        refine G_ast C t1 h4 dX10_feed_36 ?_
        refine G_lts (fun σ5 => ?_)
        refine G_aload_n C dX10_feed_37 rfl 0 rfl ?_
        refine G_dup C dX10_feed_38 rfl ?_
        refine G_getI C f_X10_feed_86 t0 rfl dX10_feed_39 ?_
        refine G_iconst C dX10_feed_42 (v := 1) (by decide +kernel) ?_
        refine G_iadd C dX10_feed_43 ?_
        refine G_putI C p_X10_feed_86 t0 rfl rfl rfl dX10_feed_44 ?_
        refine G_lts (fun σ6 => ?_)
        refine G_aload_n C dX10_feed_47 rfl 0 rfl ?_
        refine G_getI C f_X10_feed_86 t0 rfl dX10_feed_48 ?_
        exact G_iret C q dX10_feed_51
      · refine G_ldc C dX10_feed_24 c_X10_feed_97 ?_
        exact G_iret C q dX10_feed_26
    · refine G_ldc C dX10_feed_11 c_X10_feed_96 ?_
      exact G_iret C q dX10_feed_13
theorem k_m_X10_feed (l : Launch) (E : g_E) (n : Nat) (T : Nat → g_Sh) (hA : g_ag L_m_X10_feed n T) (x1 : Int32) (σ : g_St) (a : Int32 × g_St) (h : m_X10_feed x1 σ = some a) : Met l yX10_feed wsX10_feed rm_m_X10_feed (g_Pc E n T [.ref (E.2.1 + 0), .int x1] σ) (g_Qi E n T a) 0 0 (g_A E) :=
  g_metI (by decide +kernel) rfl rfl (Nat.le_of_ble_eq_true rfl) (fun M Qf C q => by rw [← h]; exact w_m_X10_feed_0 C q hA x1 σ)
def L_m_X10_forgetSeen : List Nat := [0, 67, 69, 74]
abbrev rm_m_X10_forgetSeen : Room := { frames := 0, cells := 0, slots := 0, locals := 0 }
theorem f_X10_forgetSeen_65 : g_Fld wsX10_forgetSeen RX10 65 10 8 := ⟨RX10, TX10, 15, rfl, by decide +kernel, by decide, by decide +kernel⟩
theorem f_X10_forgetSeen_72 : g_Fld wsX10_forgetSeen RX10 72 10 9 := ⟨RX10, TX10, 15, rfl, by decide +kernel, by decide, by decide +kernel⟩
theorem f_X10_forgetSeen_79 : g_Fld wsX10_forgetSeen RX10 79 10 10 := ⟨RX10, TX10, 15, rfl, by decide +kernel, by decide, by decide +kernel⟩
theorem p_X10_forgetSeen_153 : g_FldP wsX10_forgetSeen RX10 153 8 1 .int := ⟨RX8, TX8, 2, tyX8, rfl, by decide +kernel, by decide, by decide +kernel, tyX8_ok, nmX8, rfl, by decide +kernel⟩
theorem p_X10_forgetSeen_156 : g_FldP wsX10_forgetSeen RX10 156 1 4 .int := ⟨RX1, TX1, 8, tyX1, rfl, by decide +kernel, by decide, by decide +kernel, tyX1_ok, nmX1, rfl, by decide +kernel⟩
theorem p_X10_forgetSeen_157 : g_FldP wsX10_forgetSeen RX10 157 0 1 .int := ⟨RX0, TX0, 2, tyX0, rfl, by decide +kernel, by decide, by decide +kernel, tyX0_ok, nmX0, rfl, by decide +kernel⟩
set_option maxHeartbeats 4000000 in
set_option maxRecDepth 100000 in
theorem w_m_X10_forgetSeen_0 {X : g_X (g_St)} (C : g_C X cX10_forgetSeen RX10 wsX10_forgetSeen rm_m_X10_forgetSeen 1) (q : g_qV X) (hA : g_ag L_m_X10_forgetSeen (g_n X) (g_T X)) (σ : g_St) : G X 0 [(0, .ref (g_b X + 0))] [] σ (m_X10_forgetSeen σ) := by
  have t0 := g_ag_at hA (c := 0) rfl tc0
  have t67 := g_ag_at hA (c := 67) rfl tc67
  have t69 := g_ag_at hA (c := 69) rfl tc69
  have t74 := g_ag_at hA (c := 74) rfl tc74
  unfold m_X10_forgetSeen
  refine G_aload_n C dX10_forgetSeen_0 rfl 0 rfl ?_
  refine G_getR C f_X10_forgetSeen_65 t0 rfl dX10_forgetSeen_1 ?_
  refine G_iconst C dX10_forgetSeen_4 (v := 0) (by decide +kernel) ?_
  refine G_putI C p_X10_forgetSeen_153 t67 rfl rfl rfl dX10_forgetSeen_5 ?_
  refine G_lts (fun σ1 => ?_)
  refine G_aload_n C dX10_forgetSeen_8 rfl 0 rfl ?_
  refine G_getR C f_X10_forgetSeen_72 t0 rfl dX10_forgetSeen_9 ?_
  refine G_iconst C dX10_forgetSeen_12 (v := 0) (by decide +kernel) ?_
  refine G_putI C p_X10_forgetSeen_156 t69 rfl rfl rfl dX10_forgetSeen_13 ?_
  refine G_lts (fun σ2 => ?_)
  refine G_aload_n C dX10_forgetSeen_16 rfl 0 rfl ?_
  refine G_getR C f_X10_forgetSeen_79 t0 rfl dX10_forgetSeen_17 ?_
  refine G_iconst C dX10_forgetSeen_20 (v := 0) (by decide +kernel) ?_
  refine G_putI C p_X10_forgetSeen_157 t74 rfl rfl rfl dX10_forgetSeen_21 ?_
  refine G_lts (fun σ3 => ?_)
  exact G_vret C q dX10_forgetSeen_24
theorem k_m_X10_forgetSeen (l : Launch) (E : g_E) (n : Nat) (T : Nat → g_Sh) (hA : g_ag L_m_X10_forgetSeen n T) (σ : g_St) (a : g_St) (h : m_X10_forgetSeen σ = some a) : Met l yX10_forgetSeen wsX10_forgetSeen rm_m_X10_forgetSeen (g_Pc E n T [.ref (E.2.1 + 0)] σ) (g_Qv E n T a) 0 0 (g_A E) :=
  g_metV (by decide +kernel) rfl rfl (Nat.le_of_ble_eq_true rfl) (fun M Qf C q => by rw [← h]; exact w_m_X10_forgetSeen_0 C q hA σ)
def L_m_X10_town : List Nat := [0, 1, 2, 3, 4, 5, 6, 7, 8, 9, 10, 11, 12, 13, 14, 15, 16, 17, 18, 19, 20, 21, 22, 54, 67, 69, 74]
abbrev rm_m_X10_town : Room := { frames := 5, cells := 0, slots := 0, locals := 146 }
theorem f_X10_town_102 : g_Fld wsX10_town RX10 102 6 11 := ⟨RX6, TX6, 12, rfl, by decide +kernel, by decide, by decide +kernel⟩
theorem f_X10_town_103 : g_Fld wsX10_town RX10 103 6 0 := ⟨RX6, TX6, 12, rfl, by decide +kernel, by decide, by decide +kernel⟩
theorem f_X10_town_108 : g_Fld wsX10_town RX10 108 6 1 := ⟨RX6, TX6, 12, rfl, by decide +kernel, by decide, by decide +kernel⟩
theorem f_X10_town_121 : g_Fld wsX10_town RX10 121 7 2 := ⟨RX7, TX7, 6, rfl, by decide +kernel, by decide, by decide +kernel⟩
theorem f_X10_town_16 : g_Fld wsX10_town RX10 16 10 1 := ⟨RX10, TX10, 15, rfl, by decide +kernel, by decide, by decide +kernel⟩
theorem f_X10_town_23 : g_Fld wsX10_town RX10 23 10 2 := ⟨RX10, TX10, 15, rfl, by decide +kernel, by decide, by decide +kernel⟩
theorem f_X10_town_30 : g_Fld wsX10_town RX10 30 10 3 := ⟨RX10, TX10, 15, rfl, by decide +kernel, by decide, by decide +kernel⟩
theorem f_X10_town_37 : g_Fld wsX10_town RX10 37 10 4 := ⟨RX10, TX10, 15, rfl, by decide +kernel, by decide, by decide +kernel⟩
theorem f_X10_town_44 : g_Fld wsX10_town RX10 44 10 5 := ⟨RX10, TX10, 15, rfl, by decide +kernel, by decide, by decide +kernel⟩
theorem f_X10_town_86 : g_Fld wsX10_town RX10 86 10 12 := ⟨RX10, TX10, 15, rfl, by decide +kernel, by decide, by decide +kernel⟩
theorem f_X10_town_9 : g_Fld wsX10_town RX10 9 10 0 := ⟨RX10, TX10, 15, rfl, by decide +kernel, by decide, by decide +kernel⟩
theorem p_X10_town_86 : g_FldP wsX10_town RX10 86 10 12 .int := ⟨RX10, TX10, 15, tyX10, rfl, by decide +kernel, by decide, by decide +kernel, tyX10_ok, nmX10, rfl, by decide +kernel⟩
theorem p_X10_town_90 : g_FldP wsX10_town RX10 90 10 13 .int := ⟨RX10, TX10, 15, tyX10, rfl, by decide +kernel, by decide, by decide +kernel, tyX10_ok, nmX10, rfl, by decide +kernel⟩
set_option maxHeartbeats 4000000 in
set_option maxRecDepth 100000 in
theorem w_m_X10_town_0 {X : g_X (Int32 × g_St)} (C : g_C X cX10_town RX10 wsX10_town rm_m_X10_town 2) (q : g_qI X) (hA : g_ag L_m_X10_town (g_n X) (g_T X)) (N : Nat) (σ : g_St) : G X 0 [(0, .ref (g_b X + 0))] [] σ (m_X10_town N σ) := by
  have t0 := g_ag_at hA (c := 0) rfl tc0
  have t2 := g_ag_at hA (c := 2) rfl tc2
  have t13 := g_ag_at hA (c := 13) rfl tc13
  have t16 := g_ag_at hA (c := 16) rfl tc16
  have t22 := g_ag_at hA (c := 22) rfl tc22
  have t54 := g_ag_at hA (c := 54) rfl tc54
  unfold m_X10_town
  refine G_aload_n C dX10_town_0 rfl 0 rfl ?_
  refine G_getR C f_X10_town_16 t0 rfl dX10_town_1 ?_
  refine G_aload_n C dX10_town_4 rfl 0 rfl ?_
  refine G_getR C f_X10_town_9 t0 rfl dX10_town_5 ?_
  refine G_aload_n C dX10_town_8 rfl 0 rfl ?_
  refine G_getI C f_X10_town_86 t0 rfl dX10_town_9 ?_
  refine G_callI (rest := []) (fun a ha => g_runV C (nargs := 2) (As := [.ref (g_b X + 1), .int (σ.1 0 12)]) (rest := []) gX10_town_X6_read rfl (by decide +kernel) rfl t2 rfl rfl rfl rfl dX10_town_12 (k_m_X6_read_1 X.1.2.1 X.2.1 (g_n X) (g_T X) (g_ag_sub hA (by decide +kernel)) N (σ.1 0 12) σ a ha)) (fun q1 => ?_)
  refine G_istore_n C dX10_town_15 rfl rfl (lv' := [(1, .int q1.1), (0, .ref (g_b X + 0))]) rfl ?_
  refine G_aload_n C dX10_town_16 rfl 1 rfl ?_
  refine G_iconst C dX10_town_17 (v := 0) (by decide +kernel) ?_
  refine G_putI C p_X10_town_86 t0 rfl rfl rfl dX10_town_18 ?_
  refine G_lts (fun σ2 => ?_)
  refine G_aload_n C dX10_town_21 rfl 1 rfl ?_
  refine G_aload_n C dX10_town_22 rfl 1 rfl ?_
  refine G_getR C f_X10_town_16 t0 rfl dX10_town_23 ?_
  refine G_getI C f_X10_town_102 t2 rfl dX10_town_26 ?_
  refine G_putI C p_X10_town_90 t0 rfl rfl rfl dX10_town_29 ?_
  refine G_lts (fun σ3 => ?_)
  refine G_iload_n C dX10_town_32 rfl 0 rfl ?_
  refine G_if_eq C dX10_town_33 (tgt := 41) (by decide) (fun c4 => ?_) (fun c4 => ?_)
  · refine G_aload_n C dX10_town_41 rfl 1 rfl ?_
    refine G_getR C f_X10_town_23 t0 rfl dX10_town_42 ?_
    refine G_aload_n C dX10_town_45 rfl 1 rfl ?_
    refine G_getR C f_X10_town_16 t0 rfl dX10_town_46 ?_
    refine G_getR C f_X10_town_103 t2 rfl dX10_town_49 ?_
    refine G_callV (rest := []) (fun a ha => g_runV C (nargs := 1) (As := [.ref (g_b X + 3)]) (rest := []) gX10_town_X7_copyFrom rfl (by decide +kernel) rfl t13 rfl rfl rfl rfl dX10_town_52 (k_m_X7_copyFrom_3 X.1.2.1 X.2.1 (g_n X) (g_T X) (g_ag_sub hA (by decide +kernel)) σ3 a ha)) (fun σ5 => ?_)
    refine G_aload_n C dX10_town_55 rfl 1 rfl ?_
    refine G_getR C f_X10_town_30 t0 rfl dX10_town_56 ?_
    refine G_aload_n C dX10_town_59 rfl 1 rfl ?_
    refine G_getR C f_X10_town_16 t0 rfl dX10_town_60 ?_
    refine G_getR C f_X10_town_108 t2 rfl dX10_town_63 ?_
    refine G_callV (rest := []) (fun a ha => g_runV C (nargs := 1) (As := [.ref (g_b X + 6)]) (rest := []) gX10_town_X4_copyFrom rfl (by decide +kernel) rfl t16 rfl rfl rfl rfl dX10_town_66 (k_m_X4_copyFrom_6 X.1.2.1 X.2.1 (g_n X) (g_T X) (g_ag_sub hA (by decide +kernel)) σ5 a ha)) (fun σ6 => ?_)
    refine G_aload_n C dX10_town_69 rfl 1 rfl ?_
    refine G_callV (rest := []) (fun a ha => g_runV C (nargs := 0) (As := []) (rest := []) gX10_town_X10_forgetSeen rfl (by decide +kernel) rfl t0 rfl rfl rfl rfl dX10_town_70 (k_m_X10_forgetSeen X.1.2.1 X.2.1 (g_n X) (g_T X) (g_ag_sub hA (by decide +kernel)) σ6 a ha)) (fun σ7 => ?_)
    refine G_aload_n C dX10_town_73 rfl 1 rfl ?_
    refine G_getR C f_X10_town_37 t0 rfl dX10_town_74 ?_
    refine G_callV (rest := []) (fun a ha => g_runV C (nargs := 0) (As := []) (rest := []) gX10_town_X5_clear rfl (by decide +kernel) rfl t22 rfl rfl rfl rfl dX10_town_77 (k_m_X5_clear X.1.2.1 X.2.1 (g_n X) (g_T X) (g_ag_sub hA (by decide +kernel)) σ7 a ha)) (fun σ8 => ?_)
    refine G_aload_n C dX10_town_80 rfl 1 rfl ?_
    refine G_getR C f_X10_town_44 t0 rfl dX10_town_81 ?_
    refine G_callV (rest := []) (fun a ha => g_runV C (nargs := 0) (As := []) (rest := []) gX10_town_X3_clear rfl (by decide +kernel) rfl t54 rfl rfl rfl rfl dX10_town_84 (k_m_X3_clear X.1.2.1 X.2.1 (g_n X) (g_T X) (g_ag_sub hA (by decide +kernel)) σ8 a ha)) (fun σ9 => ?_)
    refine G_aload_n C dX10_town_87 rfl 1 rfl ?_
    refine G_getR C f_X10_town_23 t0 rfl dX10_town_88 ?_
    refine G_getI C f_X10_town_121 t13 rfl dX10_town_91 ?_
    exact G_iret C q dX10_town_94
  · refine G_bipush C dX10_town_36 (v := -10) (by decide +kernel) ?_
    refine G_iload_n C dX10_town_38 rfl 0 rfl ?_
    refine G_isub C dX10_town_39 ?_
    exact G_iret C q dX10_town_40
theorem k_m_X10_town (l : Launch) (E : g_E) (n : Nat) (T : Nat → g_Sh) (hA : g_ag L_m_X10_town n T) (N : Nat) (σ : g_St) (a : Int32 × g_St) (h : m_X10_town N σ = some a) : Met l yX10_town wsX10_town rm_m_X10_town (g_Pc E n T [.ref (E.2.1 + 0)] σ) (g_Qi E n T a) 0 0 (g_A E) :=
  g_metI (by decide +kernel) rfl rfl (Nat.le_of_ble_eq_true rfl) (fun M Qf C q => by rw [← h]; exact w_m_X10_town_0 C q hA N σ)
def L_m_X10_fault : List Nat := [0]
abbrev rm_m_X10_fault : Room := { frames := 0, cells := 0, slots := 0, locals := 0 }
theorem f_X10_fault_90 : g_Fld wsX10_fault RX10 90 10 13 := ⟨RX10, TX10, 15, rfl, by decide +kernel, by decide, by decide +kernel⟩
set_option maxHeartbeats 4000000 in
set_option maxRecDepth 100000 in
theorem w_m_X10_fault_0 {X : g_X (Int32 × g_St)} (C : g_C X cX10_fault RX10 wsX10_fault rm_m_X10_fault 1) (q : g_qI X) (hA : g_ag L_m_X10_fault (g_n X) (g_T X)) (σ : g_St) : G X 0 [(0, .ref (g_b X + 0))] [] σ (m_X10_fault σ) := by
  have t0 := g_ag_at hA (c := 0) rfl tc0
  unfold m_X10_fault
  refine G_aload_n C dX10_fault_0 rfl 0 rfl ?_
  refine G_getI C f_X10_fault_90 t0 rfl dX10_fault_1 ?_
  exact G_iret C q dX10_fault_4
theorem k_m_X10_fault (l : Launch) (E : g_E) (n : Nat) (T : Nat → g_Sh) (hA : g_ag L_m_X10_fault n T) (σ : g_St) (a : Int32 × g_St) (h : m_X10_fault σ = some a) : Met l yX10_fault wsX10_fault rm_m_X10_fault (g_Pc E n T [.ref (E.2.1 + 0)] σ) (g_Qi E n T a) 0 0 (g_A E) :=
  g_metI (by decide +kernel) rfl rfl (Nat.le_of_ble_eq_true rfl) (fun M Qf C q => by rw [← h]; exact w_m_X10_fault_0 C q hA σ)
def L_m_X10_spreadOf_17 : List Nat := [17]
abbrev rm_m_X10_spreadOf_17 : Room := { frames := 1, cells := 0, slots := 0, locals := 30 }
theorem w_X10_spreadOf_220 : g_mw wsX10_spreadOf RX10 220 Lib.Math.min.name Lib.Math.min.code 2 := ⟨by decide +kernel, by decide +kernel, by decide +kernel, by decide +kernel⟩
theorem w_X10_spreadOf_327 : g_mw wsX10_spreadOf RX10 327 Lib.Math.max.name Lib.Math.max.code 2 := ⟨by decide +kernel, by decide +kernel, by decide +kernel, by decide +kernel⟩
set_option maxHeartbeats 4000000 in
set_option maxRecDepth 100000 in
theorem w_m_X10_spreadOf_17_18 {X : g_X (Int32 × g_St)} (C : g_C X cX10_spreadOf RX10 wsX10_spreadOf rm_m_X10_spreadOf_17 5) (q : g_qI X) (hA : g_ag L_m_X10_spreadOf_17 (g_n X) (g_T X)) (N : Nat) : ∀ (fu : Nat) (x1 : Int32) (x2 : Int32) (x3 : Int32) (x4 : Int32) (σ : g_St), G X 18 [(0, .ref (g_b X + 17)), (1, .int x1), (2, .int x2), (3, .int x3), (4, .int x4)] [] σ (m_X10_spreadOf_17_18 N fu x1 x2 x3 x4 σ) := by
  have t17 := g_ag_at hA (c := 17) rfl tc17
  intro fu
  induction fu with
  | zero => intro x1 x2 x3 x4 σ; exact G_none
  | succ fu ih =>
    intro x1 x2 x3 x4 σ
    unfold m_X10_spreadOf_17_18
    refine G_iload C dX10_spreadOf_18 4 rfl ?_
    refine G_iload_n C dX10_spreadOf_20 rfl 1 rfl ?_
    refine G_icmp_ge C dX10_spreadOf_21 (tgt := 48) (by decide) (fun c1 => ?_) (fun c1 => ?_)
    · refine G_iload_n C dX10_spreadOf_48 rfl 3 rfl ?_
      refine G_iload_n C dX10_spreadOf_49 rfl 2 rfl ?_
      refine G_isub C dX10_spreadOf_50 ?_
      exact G_iret C q dX10_spreadOf_51
    · refine G_iload_n C dX10_spreadOf_24 rfl 2 rfl ?_
      refine G_aload_n C dX10_spreadOf_25 rfl 0 rfl ?_
      refine G_iload C dX10_spreadOf_26 4 rfl ?_
      refine G_chk (fun h2 => ?_)
      refine G_ald C t17 h2 dX10_spreadOf_28 ?_
      refine G_mmin C w_X10_spreadOf_220 rfl dX10_spreadOf_29 ?_
      refine G_lti (fun v3 => ?_)
      refine G_istore_n C dX10_spreadOf_32 rfl rfl (lv' := [(2, .int v3), (0, .ref (g_b X + 17)), (1, .int x1), (3, .int x3), (4, .int x4)]) rfl ?_
      refine G_iload_n C dX10_spreadOf_33 rfl 3 rfl ?_
      refine G_aload_n C dX10_spreadOf_34 rfl 1 rfl ?_
      refine G_iload C dX10_spreadOf_35 4 rfl ?_
      refine G_chk (fun h4 => ?_)
      refine G_ald C t17 h4 dX10_spreadOf_37 ?_
      refine G_mmax C w_X10_spreadOf_327 rfl dX10_spreadOf_38 ?_
      refine G_lti (fun v5 => ?_)
      refine G_istore_n C dX10_spreadOf_41 rfl rfl (lv' := [(3, .int v5), (2, .int v3), (0, .ref (g_b X + 17)), (1, .int x1), (4, .int x4)]) rfl ?_
      refine G_iinc C dX10_spreadOf_42 4 rfl (v := (x4 + (1 : Int32))) (by rfl) rfl (lv' := [(4, .int (x4 + (1 : Int32))), (3, .int v5), (2, .int v3), (0, .ref (g_b X + 17)), (1, .int x1)]) rfl ?_
      refine G_ltv (fun v => [(4, .int v), (3, .int v5), (2, .int v3), (0, .ref (g_b X + 17)), (1, .int x1)]) (fun v6 => ?_)
      refine G_goto C dX10_spreadOf_45 (tgt := 18) (by decide) ?_
      exact G_sub (ih x1 v3 v5 v6 σ) [3, 4, 2, 1, 0] rfl
set_option maxHeartbeats 4000000 in
set_option maxRecDepth 100000 in
theorem w_m_X10_spreadOf_17_0 {X : g_X (Int32 × g_St)} (C : g_C X cX10_spreadOf RX10 wsX10_spreadOf rm_m_X10_spreadOf_17 5) (q : g_qI X) (hA : g_ag L_m_X10_spreadOf_17 (g_n X) (g_T X)) (N : Nat) (x1 : Int32) (σ : g_St) : G X 0 [(0, .ref (g_b X + 17)), (1, .int x1)] [] σ (m_X10_spreadOf_17 N x1 σ) := by
  have t17 := g_ag_at hA (c := 17) rfl tc17
  unfold m_X10_spreadOf_17
  refine G_iload_n C dX10_spreadOf_0 rfl 1 rfl ?_
  refine G_iconst C dX10_spreadOf_1 (v := 1) (by decide +kernel) ?_
  refine G_icmp_ge C dX10_spreadOf_2 (tgt := 7) (by decide) (fun c1 => ?_) (fun c1 => ?_)
  · refine G_aload_n C dX10_spreadOf_7 rfl 0 rfl ?_
    refine G_iconst C dX10_spreadOf_8 (v := 0) (by decide +kernel) ?_
    refine G_aldk C t17 (by decide +kernel) (k := 0) rfl dX10_spreadOf_9 ?_
    refine G_lti (fun v2 => ?_)
    refine G_istore_n C dX10_spreadOf_10 rfl rfl (lv' := [(2, .int v2), (0, .ref (g_b X + 17)), (1, .int x1)]) rfl ?_
    refine G_aload_n C dX10_spreadOf_11 rfl 1 rfl ?_
    refine G_iconst C dX10_spreadOf_12 (v := 0) (by decide +kernel) ?_
    refine G_aldk C t17 (by decide +kernel) (k := 0) rfl dX10_spreadOf_13 ?_
    refine G_lti (fun v3 => ?_)
    refine G_istore_n C dX10_spreadOf_14 rfl rfl (lv' := [(3, .int v3), (2, .int v2), (0, .ref (g_b X + 17)), (1, .int x1)]) rfl ?_
    refine G_iconst C dX10_spreadOf_15 (v := 1) (by decide +kernel) ?_
    refine G_istore C dX10_spreadOf_16 rfl (lv' := [(4, .int (1 : Int32)), (3, .int v3), (2, .int v2), (0, .ref (g_b X + 17)), (1, .int x1)]) rfl ?_
    exact G_sub (w_m_X10_spreadOf_17_18 C q hA N N x1 v2 v3 (1 : Int32) σ) [3, 4, 2, 1, 0] rfl
  · refine G_iconst C dX10_spreadOf_5 (v := 0) (by decide +kernel) ?_
    exact G_iret C q dX10_spreadOf_6
theorem k_m_X10_spreadOf_17 (l : Launch) (E : g_E) (n : Nat) (T : Nat → g_Sh) (hA : g_ag L_m_X10_spreadOf_17 n T) (N : Nat) (x1 : Int32) (σ : g_St) (a : Int32 × g_St) (h : m_X10_spreadOf_17 N x1 σ = some a) : Met l yX10_spreadOf wsX10_spreadOf rm_m_X10_spreadOf_17 (g_Pc E n T [.ref (E.2.1 + 17), .int x1] σ) (g_Qi E n T a) 0 0 (g_A E) :=
  g_metI (by decide +kernel) rfl rfl (Nat.le_of_ble_eq_true rfl) (fun M Qf C q => by rw [← h]; exact w_m_X10_spreadOf_17_0 C q hA N x1 σ)
