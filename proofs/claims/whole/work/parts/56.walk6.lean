def L_m_X11_feed : List Nat := [77, 80]
abbrev rm_m_X11_feed : Room := { frames := 1, cells := 0, slots := 0, locals := 25 }
theorem f_X11_feed_16 : g_Fld wsX11_feed RX11 16 11 2 := ⟨RX11, TX11, 27, rfl, by decide +kernel, by decide, by decide +kernel⟩
theorem f_X11_feed_72 : g_Fld wsX11_feed RX11 72 11 3 := ⟨RX11, TX11, 27, rfl, by decide +kernel, by decide, by decide +kernel⟩
theorem p_X11_feed_72 : g_FldP wsX11_feed RX11 72 11 3 .int := ⟨RX11, TX11, 27, tyX11, rfl, by decide +kernel, by decide, by decide +kernel, tyX11_ok, nmX11, rfl, by decide +kernel⟩
theorem c_X11_feed_65 : Cond.constantLong RX11 65 (255) ∈ wsX11_feed := by decide +kernel
theorem c_X11_feed_71 : Cond.constant RX11 71 (-1000000002) ∈ wsX11_feed := by decide +kernel
theorem c_X11_feed_75 : Cond.constant RX11 75 (-1000000004) ∈ wsX11_feed := by decide +kernel
set_option maxHeartbeats 4000000 in
set_option maxRecDepth 100000 in
theorem w_m_X11_feed_0 {X : g_X (Int32 × g_St)} (C : g_C X cX11_feed RX11 wsX11_feed rm_m_X11_feed 2) (q : g_qI X) (hA : g_ag L_m_X11_feed (g_n X) (g_T X)) (x1 : Int32) (σ : g_St) : G X 0 [(0, .ref (g_b X + 77)), (1, .int x1)] [] σ (m_X11_feed x1 σ) := by
  have t77 := g_ag_at hA (c := 77) rfl tc77
  have t80 := g_ag_at hA (c := 80) rfl tc80
  unfold m_X11_feed
  refine G_iload_n C dX11_feed_0 rfl 1 rfl ?_
  refine G_i2l C dX11_feed_1 ?_
  refine G_lconst C dX11_feed_2 (v := 0) (by decide +kernel) ?_
  refine G_ldc2 C dX11_feed_3 c_X11_feed_65 ?_
  refine G_callI (rest := []) (fun a ha => g_runS C (nargs := 3) (As := [.long (x1).toInt64, .long (0 : Int64), .long (255 : Int64)]) (rest := []) gX11_feed_X11_in rfl (by decide +kernel) rfl rfl rfl dX11_feed_6 (k_m_X11_in X.1.2.1 X.2.1 (g_n X) (g_T X) (g_ag_sub hA (by decide +kernel)) (x1).toInt64 (0 : Int64) (255 : Int64) σ a ha)) (fun q1 => ?_)
  refine G_if_ne C dX11_feed_9 (tgt := 15) (by decide) (fun c2 => ?_) (fun c2 => ?_)
  · refine G_ldc C dX11_feed_12 c_X11_feed_71 ?_
    exact G_iret C q dX11_feed_14
  · refine G_aload_n C dX11_feed_15 rfl 0 rfl ?_
    refine G_getI C f_X11_feed_72 t77 rfl dX11_feed_16 ?_
    refine G_sipush C dX11_feed_19 (v := 250) (by decide +kernel) ?_
    refine G_icmp_ne C dX11_feed_22 (tgt := 28) (by decide) (fun c3 => ?_) (fun c3 => ?_)
    · refine G_ldc C dX11_feed_25 c_X11_feed_75 ?_
      exact G_iret C q dX11_feed_27
    · refine G_aload_n C dX11_feed_28 rfl 0 rfl ?_
      refine G_getR C f_X11_feed_16 t77 rfl dX11_feed_29 ?_
      refine G_aload_n C dX11_feed_32 rfl 0 rfl ?_
      refine G_getI C f_X11_feed_72 t77 rfl dX11_feed_33 ?_
      refine G_iload_n C dX11_feed_36 rfl 1 rfl ?_
      refine G_chk (fun h4 => ?_)
      refine G_ast C t80 h4 dX11_feed_37 ?_
      refine G_lts (fun σ5 => ?_)
      refine G_aload_n C dX11_feed_38 rfl 0 rfl ?_
      refine G_dup C dX11_feed_39 rfl ?_
      refine G_getI C f_X11_feed_72 t77 rfl dX11_feed_40 ?_
      refine G_iconst C dX11_feed_43 (v := 1) (by decide +kernel) ?_
      refine G_iadd C dX11_feed_44 ?_
      refine G_putI C p_X11_feed_72 t77 rfl rfl rfl dX11_feed_45 ?_
      refine G_lts (fun σ6 => ?_)
      refine G_aload_n C dX11_feed_48 rfl 0 rfl ?_
      refine G_getI C f_X11_feed_72 t77 rfl dX11_feed_49 ?_
      exact G_iret C q dX11_feed_52
theorem k_m_X11_feed (l : Launch) (E : g_E) (n : Nat) (T : Nat → g_Sh) (hA : g_ag L_m_X11_feed n T) (x1 : Int32) (σ : g_St) (a : Int32 × g_St) (h : m_X11_feed x1 σ = some a) : Met l yX11_feed wsX11_feed rm_m_X11_feed (g_Pc E n T [.ref (E.2.1 + 77), .int x1] σ) (g_Qi E n T a) 0 0 (g_A E) :=
  g_metI (by decide +kernel) rfl rfl (Nat.le_of_ble_eq_true rfl) (fun M Qf C q => by rw [← h]; exact w_m_X11_feed_0 C q hA x1 σ)
def L_m_X11_here : List Nat := [77, 80]
abbrev rm_m_X11_here : Room := { frames := 0, cells := 0, slots := 0, locals := 0 }
theorem f_X11_here_16 : g_Fld wsX11_here RX11 16 11 2 := ⟨RX11, TX11, 27, rfl, by decide +kernel, by decide, by decide +kernel⟩
theorem f_X11_here_72 : g_Fld wsX11_here RX11 72 11 3 := ⟨RX11, TX11, 27, rfl, by decide +kernel, by decide, by decide +kernel⟩
theorem f_X11_here_76 : g_Fld wsX11_here RX11 76 11 4 := ⟨RX11, TX11, 27, rfl, by decide +kernel, by decide, by decide +kernel⟩
theorem p_X11_here_76 : g_FldP wsX11_here RX11 76 11 4 .int := ⟨RX11, TX11, 27, tyX11, rfl, by decide +kernel, by decide, by decide +kernel, tyX11_ok, nmX11, rfl, by decide +kernel⟩
set_option maxHeartbeats 4000000 in
set_option maxRecDepth 100000 in
theorem w_m_X11_here_38 {X : g_X (Int32 × g_St)} (C : g_C X cX11_here RX11 wsX11_here rm_m_X11_here 1) (q : g_qI X) (hA : g_ag L_m_X11_here (g_n X) (g_T X)) (N : Nat) (σ : g_St) : G X 38 [(0, .ref (g_b X + 77))] [] σ (m_X11_here_38 N σ) := by
  have t77 := g_ag_at hA (c := 77) rfl tc77
  have t80 := g_ag_at hA (c := 80) rfl tc80
  unfold m_X11_here_38
  refine G_aload_n C dX11_here_38 rfl 0 rfl ?_
  refine G_getI C f_X11_here_76 t77 rfl dX11_here_39 ?_
  refine G_aload_n C dX11_here_42 rfl 0 rfl ?_
  refine G_getI C f_X11_here_72 t77 rfl dX11_here_43 ?_
  refine G_icmp_ge C dX11_here_46 (tgt := 61) (by decide) (fun c1 => ?_) (fun c1 => ?_)
  · refine G_iconst C dX11_here_61 (v := -1) (by decide +kernel) ?_
    exact G_iret C q dX11_here_62
  · refine G_aload_n C dX11_here_49 rfl 0 rfl ?_
    refine G_getR C f_X11_here_16 t77 rfl dX11_here_50 ?_
    refine G_aload_n C dX11_here_53 rfl 0 rfl ?_
    refine G_getI C f_X11_here_76 t77 rfl dX11_here_54 ?_
    refine G_chk (fun h2 => ?_)
    refine G_ald C t80 h2 dX11_here_57 ?_
    refine G_goto C dX11_here_58 (tgt := 62) (by decide) ?_
    exact G_iret C q dX11_here_62
set_option maxHeartbeats 4000000 in
set_option maxRecDepth 100000 in
theorem w_m_X11_here_0 {X : g_X (Int32 × g_St)} (C : g_C X cX11_here RX11 wsX11_here rm_m_X11_here 1) (q : g_qI X) (hA : g_ag L_m_X11_here (g_n X) (g_T X)) (N : Nat) : ∀ (fu : Nat) (σ : g_St), G X 0 [(0, .ref (g_b X + 77))] [] σ (m_X11_here_0 N fu σ) := by
  have t77 := g_ag_at hA (c := 77) rfl tc77
  have t80 := g_ag_at hA (c := 80) rfl tc80
  intro fu
  induction fu with
  | zero => intro σ; exact G_none
  | succ fu ih =>
    intro σ
    unfold m_X11_here_0
    refine G_aload_n C dX11_here_0 rfl 0 rfl ?_
    refine G_getI C f_X11_here_76 t77 rfl dX11_here_1 ?_
    refine G_aload_n C dX11_here_4 rfl 0 rfl ?_
    refine G_getI C f_X11_here_72 t77 rfl dX11_here_5 ?_
    refine G_icmp_ge C dX11_here_8 (tgt := 38) (by decide) (fun c1 => ?_) (fun c1 => ?_)
    · exact w_m_X11_here_38 C q hA N σ
    · refine G_aload_n C dX11_here_11 rfl 0 rfl ?_
      refine G_getR C f_X11_here_16 t77 rfl dX11_here_12 ?_
      refine G_aload_n C dX11_here_15 rfl 0 rfl ?_
      refine G_getI C f_X11_here_76 t77 rfl dX11_here_16 ?_
      refine G_chk (fun h2 => ?_)
      refine G_ald C t80 h2 dX11_here_19 ?_
      refine G_bipush C dX11_here_20 (v := 32) (by decide +kernel) ?_
      refine G_icmp_ne C dX11_here_22 (tgt := 38) (by decide) (fun c3 => ?_) (fun c3 => ?_)
      · refine G_aload_n C dX11_here_25 rfl 0 rfl ?_
        refine G_dup C dX11_here_26 rfl ?_
        refine G_getI C f_X11_here_76 t77 rfl dX11_here_27 ?_
        refine G_iconst C dX11_here_30 (v := 1) (by decide +kernel) ?_
        refine G_iadd C dX11_here_31 ?_
        refine G_putI C p_X11_here_76 t77 rfl rfl rfl dX11_here_32 ?_
        refine G_lts (fun σ4 => ?_)
        refine G_goto C dX11_here_35 (tgt := 0) (by decide) ?_
        exact ih σ4
      · exact w_m_X11_here_38 C q hA N σ
theorem k_m_X11_here (l : Launch) (E : g_E) (n : Nat) (T : Nat → g_Sh) (hA : g_ag L_m_X11_here n T) (N : Nat) (σ : g_St) (a : Int32 × g_St) (h : m_X11_here N σ = some a) : Met l yX11_here wsX11_here rm_m_X11_here (g_Pc E n T [.ref (E.2.1 + 77)] σ) (g_Qi E n T a) 0 0 (g_A E) :=
  g_metI (by decide +kernel) rfl rfl (Nat.le_of_ble_eq_true rfl) (fun M Qf C q => by rw [← h]; exact w_m_X11_here_0 C q hA N N σ)
def L_m_X11_faults : List Nat := [77]
abbrev rm_m_X11_faults : Room := { frames := 0, cells := 0, slots := 0, locals := 0 }
theorem f_X11_faults_79 : g_Fld wsX11_faults RX11 79 11 5 := ⟨RX11, TX11, 27, rfl, by decide +kernel, by decide, by decide +kernel⟩
theorem p_X11_faults_55 : g_FldP wsX11_faults RX11 55 11 6 .int := ⟨RX11, TX11, 27, tyX11, rfl, by decide +kernel, by decide, by decide +kernel, tyX11_ok, nmX11, rfl, by decide +kernel⟩
theorem p_X11_faults_79 : g_FldP wsX11_faults RX11 79 11 5 .int := ⟨RX11, TX11, 27, tyX11, rfl, by decide +kernel, by decide, by decide +kernel, tyX11_ok, nmX11, rfl, by decide +kernel⟩
set_option maxHeartbeats 4000000 in
set_option maxRecDepth 100000 in
theorem w_m_X11_faults_0 {X : g_X (g_St)} (C : g_C X cX11_faults RX11 wsX11_faults rm_m_X11_faults 3) (q : g_qV X) (hA : g_ag L_m_X11_faults (g_n X) (g_T X)) (x1 : Int32) (x2 : Int32) (σ : g_St) : G X 0 [(0, .ref (g_b X + 77)), (1, .int x1), (2, .int x2)] [] σ (m_X11_faults x1 x2 σ) := by
  have t77 := g_ag_at hA (c := 77) rfl tc77
  unfold m_X11_faults
  refine G_aload_n C dX11_faults_0 rfl 0 rfl ?_
  refine G_getI C f_X11_faults_79 t77 rfl dX11_faults_1 ?_
  refine G_if_ne C dX11_faults_4 (tgt := 17) (by decide) (fun c1 => ?_) (fun c1 => ?_)
  · refine G_aload_n C dX11_faults_7 rfl 0 rfl ?_
    refine G_iload_n C dX11_faults_8 rfl 1 rfl ?_
    refine G_putI C p_X11_faults_79 t77 rfl rfl rfl dX11_faults_9 ?_
    refine G_lts (fun σ2 => ?_)
    refine G_aload_n C dX11_faults_12 rfl 0 rfl ?_
    refine G_iload_n C dX11_faults_13 rfl 2 rfl ?_
    refine G_putI C p_X11_faults_55 t77 rfl rfl rfl dX11_faults_14 ?_
    refine G_lts (fun σ3 => ?_)
    exact G_vret C q dX11_faults_17
  · exact G_vret C q dX11_faults_17
theorem k_m_X11_faults (l : Launch) (E : g_E) (n : Nat) (T : Nat → g_Sh) (hA : g_ag L_m_X11_faults n T) (x1 : Int32) (x2 : Int32) (σ : g_St) (a : g_St) (h : m_X11_faults x1 x2 σ = some a) : Met l yX11_faults wsX11_faults rm_m_X11_faults (g_Pc E n T [.ref (E.2.1 + 77), .int x1, .int x2] σ) (g_Qv E n T a) 0 0 (g_A E) :=
  g_metV (by decide +kernel) rfl rfl (Nat.le_of_ble_eq_true rfl) (fun M Qf C q => by rw [← h]; exact w_m_X11_faults_0 C q hA x1 x2 σ)
def L_m_X11_number : List Nat := [77, 80]
abbrev rm_m_X11_number : Room := { frames := 1, cells := 0, slots := 0, locals := 25 }
theorem f_X11_number_16 : g_Fld wsX11_number RX11 16 11 2 := ⟨RX11, TX11, 27, rfl, by decide +kernel, by decide, by decide +kernel⟩
theorem f_X11_number_72 : g_Fld wsX11_number RX11 72 11 3 := ⟨RX11, TX11, 27, rfl, by decide +kernel, by decide, by decide +kernel⟩
theorem f_X11_number_76 : g_Fld wsX11_number RX11 76 11 4 := ⟨RX11, TX11, 27, rfl, by decide +kernel, by decide, by decide +kernel⟩
theorem f_X11_number_79 : g_Fld wsX11_number RX11 79 11 5 := ⟨RX11, TX11, 27, rfl, by decide +kernel, by decide, by decide +kernel⟩
theorem p_X11_number_76 : g_FldP wsX11_number RX11 76 11 4 .int := ⟨RX11, TX11, 27, tyX11, rfl, by decide +kernel, by decide, by decide +kernel, tyX11_ok, nmX11, rfl, by decide +kernel⟩
theorem c_X11_number_86 : Cond.constantLong RX11 86 (48) ∈ wsX11_number := by decide +kernel
theorem c_X11_number_88 : Cond.constantLong RX11 88 (57) ∈ wsX11_number := by decide +kernel
set_option maxHeartbeats 4000000 in
set_option maxRecDepth 100000 in
theorem w_m_X11_number_127 {X : g_X (Int32 × g_St)} (C : g_C X cX11_number RX11 wsX11_number rm_m_X11_number 5) (q : g_qI X) (hA : g_ag L_m_X11_number (g_n X) (g_T X)) (N : Nat) (x1 : Int32) (x2 : Int32) (x3 : Int32) (x4 : Int32) (σ : g_St) : G X 127 [(0, .ref (g_b X + 77)), (1, .int x1), (2, .int x2), (3, .int x3), (4, .int x4)] [] σ (m_X11_number_127 N x1 x2 x3 x4 σ) := by
  have t77 := g_ag_at hA (c := 77) rfl tc77
  unfold m_X11_number_127
  refine G_iload C dX11_number_127 4 rfl ?_
  refine G_i2l C dX11_number_129 ?_
  refine G_iload_n C dX11_number_130 rfl 1 rfl ?_
  refine G_i2l C dX11_number_131 ?_
  refine G_iload_n C dX11_number_132 rfl 2 rfl ?_
  refine G_i2l C dX11_number_133 ?_
  refine G_callI (rest := []) (fun a ha => g_runS C (nargs := 3) (As := [.long (x4).toInt64, .long (x1).toInt64, .long (x2).toInt64]) (rest := []) gX11_number_X11_in rfl (by decide +kernel) rfl rfl rfl dX11_number_134 (k_m_X11_in X.1.2.1 X.2.1 (g_n X) (g_T X) (g_ag_sub hA (by decide +kernel)) (x4).toInt64 (x1).toInt64 (x2).toInt64 σ a ha)) (fun q1 => ?_)
  refine G_if_ne C dX11_number_137 (tgt := 146) (by decide) (fun c2 => ?_) (fun c2 => ?_)
  · refine G_aload_n C dX11_number_140 rfl 0 rfl ?_
    refine G_iconst C dX11_number_141 (v := 2) (by decide +kernel) ?_
    refine G_iload_n C dX11_number_142 rfl 3 rfl ?_
    refine G_callV (rest := []) (fun a ha => g_runV C (nargs := 2) (As := [.int (2 : Int32), .int x3]) (rest := []) gX11_number_X11_faults rfl (by decide +kernel) rfl t77 rfl rfl rfl rfl dX11_number_143 (k_m_X11_faults X.1.2.1 X.2.1 (g_n X) (g_T X) (g_ag_sub hA (by decide +kernel)) (2 : Int32) x3 q1.2 a ha)) (fun σ3 => ?_)
    refine G_iload C dX11_number_146 4 rfl ?_
    exact G_iret C q dX11_number_148
  · refine G_iload C dX11_number_146 4 rfl ?_
    exact G_iret C q dX11_number_148
set_option maxHeartbeats 4000000 in
set_option maxRecDepth 100000 in
theorem w_m_X11_number_112 {X : g_X (Int32 × g_St)} (C : g_C X cX11_number RX11 wsX11_number rm_m_X11_number 5) (q : g_qI X) (hA : g_ag L_m_X11_number (g_n X) (g_T X)) (k45 : Int32 → Int32 → Int32 → Int32 → g_St → Option (Int32 × g_St)) (hk45 : ∀ (x1 : Int32) (x2 : Int32) (x3 : Int32) (x4 : Int32) (σ : g_St), G X 45 [(0, .ref (g_b X + 77)), (1, .int x1), (2, .int x2), (3, .int x3), (4, .int x4)] [] σ (k45 x1 x2 x3 x4 σ)) (N : Nat) (x1 : Int32) (x2 : Int32) (x3 : Int32) (s0 : Int32) (σ : g_St) : G X 112 [(0, .ref (g_b X + 77)), (1, .int x1), (2, .int x2), (3, .int x3)] [.int s0] σ (m_X11_number_112 k45 N x1 x2 x3 s0 σ) := by
  have t77 := g_ag_at hA (c := 77) rfl tc77
  unfold m_X11_number_112
  refine G_istore C dX11_number_112 rfl (lv' := [(4, .int s0), (0, .ref (g_b X + 77)), (1, .int x1), (2, .int x2), (3, .int x3)]) rfl ?_
  refine G_aload_n C dX11_number_114 rfl 1 rfl ?_
  refine G_dup C dX11_number_115 rfl ?_
  refine G_getI C f_X11_number_76 t77 rfl dX11_number_116 ?_
  refine G_iconst C dX11_number_119 (v := 1) (by decide +kernel) ?_
  refine G_iadd C dX11_number_120 ?_
  refine G_putI C p_X11_number_76 t77 rfl rfl rfl dX11_number_121 ?_
  refine G_lts (fun σ1 => ?_)
  refine G_goto C dX11_number_124 (tgt := 45) (by decide) ?_
  exact G_sub (hk45 x1 x2 x3 s0 σ1) [1, 2, 3, 4, 0] rfl
set_option maxHeartbeats 4000000 in
set_option maxRecDepth 100000 in
theorem w_m_X11_number_45 {X : g_X (Int32 × g_St)} (C : g_C X cX11_number RX11 wsX11_number rm_m_X11_number 5) (q : g_qI X) (hA : g_ag L_m_X11_number (g_n X) (g_T X)) (N : Nat) : ∀ (fu : Nat) (x1 : Int32) (x2 : Int32) (x3 : Int32) (x4 : Int32) (σ : g_St), G X 45 [(0, .ref (g_b X + 77)), (1, .int x1), (2, .int x2), (3, .int x3), (4, .int x4)] [] σ (m_X11_number_45 N fu x1 x2 x3 x4 σ) := by
  have t77 := g_ag_at hA (c := 77) rfl tc77
  have t80 := g_ag_at hA (c := 80) rfl tc80
  intro fu
  induction fu with
  | zero => intro x1 x2 x3 x4 σ; exact G_none
  | succ fu ih =>
    intro x1 x2 x3 x4 σ
    unfold m_X11_number_45
    refine G_aload_n C dX11_number_45 rfl 0 rfl ?_
    refine G_getI C f_X11_number_76 t77 rfl dX11_number_46 ?_
    refine G_aload_n C dX11_number_49 rfl 0 rfl ?_
    refine G_getI C f_X11_number_72 t77 rfl dX11_number_50 ?_
    refine G_icmp_ge C dX11_number_53 (tgt := 127) (by decide) (fun c1 => ?_) (fun c1 => ?_)
    · exact w_m_X11_number_127 C q hA N x1 x2 x3 x4 σ
    · refine G_aload_n C dX11_number_56 rfl 0 rfl ?_
      refine G_getR C f_X11_number_16 t77 rfl dX11_number_57 ?_
      refine G_aload_n C dX11_number_60 rfl 0 rfl ?_
      refine G_getI C f_X11_number_76 t77 rfl dX11_number_61 ?_
      refine G_chk (fun h2 => ?_)
      refine G_ald C t80 h2 dX11_number_64 ?_
      refine G_i2l C dX11_number_65 ?_
      refine G_ldc2 C dX11_number_66 c_X11_number_86 ?_
      refine G_ldc2 C dX11_number_69 c_X11_number_88 ?_
      refine G_callI (rest := []) (fun a ha => g_runS C (nargs := 3) (As := [.long ((σ.1 80 (σ.1 77 4).toNatClampNeg)).toInt64, .long (48 : Int64), .long (57 : Int64)]) (rest := []) gX11_number_X11_in rfl (by decide +kernel) rfl rfl rfl dX11_number_72 (k_m_X11_in X.1.2.1 X.2.1 (g_n X) (g_T X) (g_ag_sub hA (by decide +kernel)) ((σ.1 80 (σ.1 77 4).toNatClampNeg)).toInt64 (48 : Int64) (57 : Int64) σ a ha)) (fun q3 => ?_)
      refine G_if_eq C dX11_number_75 (tgt := 127) (by decide) (fun c4 => ?_) (fun c4 => ?_)
      · exact w_m_X11_number_127 C q hA N x1 x2 x3 x4 q3.2
      · refine G_aload_n C dX11_number_78 rfl 0 rfl ?_
        refine G_getI C f_X11_number_76 t77 rfl dX11_number_79 ?_
        refine G_iload_n C dX11_number_82 rfl 3 rfl ?_
        refine G_isub C dX11_number_83 ?_
        refine G_iconst C dX11_number_84 (v := 2) (by decide +kernel) ?_
        refine G_icmp_le C dX11_number_85 (tgt := 94) (by decide) (fun c5 => ?_) (fun c5 => ?_)
        · refine G_bipush C dX11_number_94 (v := 10) (by decide +kernel) ?_
          refine G_iload C dX11_number_96 4 rfl ?_
          refine G_imul C dX11_number_98 ?_
          refine G_aload_n C dX11_number_99 rfl 0 rfl ?_
          refine G_getR C f_X11_number_16 t77 rfl dX11_number_100 ?_
          refine G_aload_n C dX11_number_103 rfl 0 rfl ?_
          refine G_getI C f_X11_number_76 t77 rfl dX11_number_104 ?_
          refine G_chk (fun h6 => ?_)
          refine G_ald C t80 h6 dX11_number_107 ?_
          refine G_iadd C dX11_number_108 ?_
          refine G_bipush C dX11_number_109 (v := 48) (by decide +kernel) ?_
          refine G_isub C dX11_number_111 ?_
          exact G_sub (w_m_X11_number_112 C q hA (m_X11_number_45 N fu) ih N x1 x2 x3 ((((10 : Int32) * x4) + (q3.2.1 80 (q3.2.1 77 4).toNatClampNeg)) - (48 : Int32)) q3.2) [0, 1, 2, 3] rfl
        · refine G_sipush C dX11_number_88 (v := 9999) (by decide +kernel) ?_
          refine G_goto C dX11_number_91 (tgt := 112) (by decide) ?_
          exact G_sub (w_m_X11_number_112 C q hA (m_X11_number_45 N fu) ih N x1 x2 x3 (9999 : Int32) q3.2) [0, 1, 2, 3] rfl
set_option maxHeartbeats 4000000 in
set_option maxRecDepth 100000 in
theorem w_m_X11_number_0 {X : g_X (Int32 × g_St)} (C : g_C X cX11_number RX11 wsX11_number rm_m_X11_number 5) (q : g_qI X) (hA : g_ag L_m_X11_number (g_n X) (g_T X)) (N : Nat) (x1 : Int32) (x2 : Int32) (σ : g_St) : G X 0 [(0, .ref (g_b X + 77)), (1, .int x1), (2, .int x2)] [] σ (m_X11_number N x1 x2 σ) := by
  have t77 := g_ag_at hA (c := 77) rfl tc77
  unfold m_X11_number
  refine G_aload_n C dX11_number_0 rfl 0 rfl ?_
  refine G_getI C f_X11_number_79 t77 rfl dX11_number_1 ?_
  refine G_if_eq C dX11_number_4 (tgt := 9) (by decide) (fun c1 => ?_) (fun c1 => ?_)
  · refine G_aload_n C dX11_number_9 rfl 0 rfl ?_
    refine G_callI (rest := []) (fun a ha => g_runV C (nargs := 0) (As := []) (rest := []) gX11_number_X11_here rfl (by decide +kernel) rfl t77 rfl rfl rfl rfl dX11_number_10 (k_m_X11_here X.1.2.1 X.2.1 (g_n X) (g_T X) (g_ag_sub hA (by decide +kernel)) N σ a ha)) (fun q2 => ?_)
    refine G_i2l C dX11_number_13 ?_
    refine G_ldc2 C dX11_number_14 c_X11_number_86 ?_
    refine G_ldc2 C dX11_number_17 c_X11_number_88 ?_
    refine G_callI (rest := []) (fun a ha => g_runS C (nargs := 3) (As := [.long (q2.1).toInt64, .long (48 : Int64), .long (57 : Int64)]) (rest := []) gX11_number_X11_in rfl (by decide +kernel) rfl rfl rfl dX11_number_20 (k_m_X11_in X.1.2.1 X.2.1 (g_n X) (g_T X) (g_ag_sub hA (by decide +kernel)) (q2.1).toInt64 (48 : Int64) (57 : Int64) q2.2 a ha)) (fun q3 => ?_)
    refine G_if_ne C dX11_number_23 (tgt := 37) (by decide) (fun c4 => ?_) (fun c4 => ?_)
    · refine G_aload_n C dX11_number_26 rfl 0 rfl ?_
      refine G_iconst C dX11_number_27 (v := 1) (by decide +kernel) ?_
      refine G_aload_n C dX11_number_28 rfl 0 rfl ?_
      refine G_getI C f_X11_number_76 t77 rfl dX11_number_29 ?_
      refine G_callV (rest := []) (fun a ha => g_runV C (nargs := 2) (As := [.int (1 : Int32), .int (q3.2.1 77 4)]) (rest := []) gX11_number_X11_faults rfl (by decide +kernel) rfl t77 rfl rfl rfl rfl dX11_number_32 (k_m_X11_faults X.1.2.1 X.2.1 (g_n X) (g_T X) (g_ag_sub hA (by decide +kernel)) (1 : Int32) (q3.2.1 77 4) q3.2 a ha)) (fun σ6 => ?_)
      refine G_iload_n C dX11_number_35 rfl 1 rfl ?_
      exact G_iret C q dX11_number_36
    · refine G_aload_n C dX11_number_37 rfl 0 rfl ?_
      refine G_getI C f_X11_number_76 t77 rfl dX11_number_38 ?_
      refine G_lti (fun v5 => ?_)
      refine G_istore_n C dX11_number_41 rfl rfl (lv' := [(3, .int v5), (0, .ref (g_b X + 77)), (1, .int x1), (2, .int x2)]) rfl ?_
      refine G_iconst C dX11_number_42 (v := 0) (by decide +kernel) ?_
      refine G_istore C dX11_number_43 rfl (lv' := [(4, .int (0 : Int32)), (3, .int v5), (0, .ref (g_b X + 77)), (1, .int x1), (2, .int x2)]) rfl ?_
      exact G_sub (w_m_X11_number_45 C q hA N N x1 x2 v5 (0 : Int32) q3.2) [2, 3, 4, 1, 0] rfl
  · refine G_iload_n C dX11_number_7 rfl 1 rfl ?_
    exact G_iret C q dX11_number_8
theorem k_m_X11_number (l : Launch) (E : g_E) (n : Nat) (T : Nat → g_Sh) (hA : g_ag L_m_X11_number n T) (N : Nat) (x1 : Int32) (x2 : Int32) (σ : g_St) (a : Int32 × g_St) (h : m_X11_number N x1 x2 σ = some a) : Met l yX11_number wsX11_number rm_m_X11_number (g_Pc E n T [.ref (E.2.1 + 77), .int x1, .int x2] σ) (g_Qi E n T a) 0 0 (g_A E) :=
  g_metI (by decide +kernel) rfl rfl (Nat.le_of_ble_eq_true rfl) (fun M Qf C q => by rw [← h]; exact w_m_X11_number_0 C q hA N x1 x2 σ)
def L_m_X11_readPerson : List Nat := [77, 78, 80]
abbrev rm_m_X11_readPerson : Room := { frames := 2, cells := 0, slots := 0, locals := 49 }
theorem f_X11_readPerson_7 : g_Fld wsX11_readPerson RX11 7 11 0 := ⟨RX11, TX11, 27, rfl, by decide +kernel, by decide, by decide +kernel⟩
set_option maxHeartbeats 4000000 in
set_option maxRecDepth 100000 in
theorem w_m_X11_readPerson_0 {X : g_X (g_St)} (C : g_C X cX11_readPerson RX11 wsX11_readPerson rm_m_X11_readPerson 2) (q : g_qV X) (hA : g_ag L_m_X11_readPerson (g_n X) (g_T X)) (N : Nat) (σ : g_St) : G X 0 [(0, .ref (g_b X + 77))] [] σ (m_X11_readPerson N σ) := by
  have t77 := g_ag_at hA (c := 77) rfl tc77
  have t78 := g_ag_at hA (c := 78) rfl tc78
  unfold m_X11_readPerson
  refine G_bipush C dX11_readPerson_0 (v := 9) (by decide +kernel) ?_
  refine G_iconst C dX11_readPerson_2 (v := 2) (by decide +kernel) ?_
  refine G_aload_n C dX11_readPerson_3 rfl 0 rfl ?_
  refine G_getR C f_X11_readPerson_7 t77 rfl dX11_readPerson_4 ?_
  refine G_iconst C dX11_readPerson_7 (v := 0) (by decide +kernel) ?_
  refine G_aldk C t78 (by decide +kernel) (k := 0) rfl dX11_readPerson_8 ?_
  refine G_imul C dX11_readPerson_9 ?_
  refine G_iadd C dX11_readPerson_10 ?_
  refine G_lti (fun v1 => ?_)
  refine G_istore_n C dX11_readPerson_11 rfl rfl (lv' := [(1, .int v1), (0, .ref (g_b X + 77))]) rfl ?_
  refine G_aload_n C dX11_readPerson_12 rfl 1 rfl ?_
  refine G_getR C f_X11_readPerson_7 t77 rfl dX11_readPerson_13 ?_
  refine G_iload_n C dX11_readPerson_16 rfl 0 rfl ?_
  refine G_aload_n C dX11_readPerson_17 rfl 1 rfl ?_
  refine G_iconst C dX11_readPerson_18 (v := 0) (by decide +kernel) ?_
  refine G_bipush C dX11_readPerson_19 (v := 99) (by decide +kernel) ?_
  refine G_callI (rest := [.int v1, .ref (g_b X + 78)]) (fun a ha => g_runV C (nargs := 2) (As := [.int (0 : Int32), .int (99 : Int32)]) (rest := [.int v1, .ref (g_b X + 78)]) gX11_readPerson_X11_number rfl (by decide +kernel) rfl t77 rfl rfl rfl rfl dX11_readPerson_21 (k_m_X11_number X.1.2.1 X.2.1 (g_n X) (g_T X) (g_ag_sub hA (by decide +kernel)) N (0 : Int32) (99 : Int32) σ a ha)) (fun q2 => ?_)
  refine G_chk (fun h3 => ?_)
  refine G_ast C t78 h3 dX11_readPerson_24 ?_
  refine G_lts (fun σ4 => ?_)
  refine G_aload_n C dX11_readPerson_25 rfl 1 rfl ?_
  refine G_getR C f_X11_readPerson_7 t77 rfl dX11_readPerson_26 ?_
  refine G_iload_n C dX11_readPerson_29 rfl 0 rfl ?_
  refine G_iconst C dX11_readPerson_30 (v := 1) (by decide +kernel) ?_
  refine G_iadd C dX11_readPerson_31 ?_
  refine G_aload_n C dX11_readPerson_32 rfl 1 rfl ?_
  refine G_iconst C dX11_readPerson_33 (v := 0) (by decide +kernel) ?_
  refine G_sipush C dX11_readPerson_34 (v := 999) (by decide +kernel) ?_
  refine G_callI (rest := [.int (v1 + (1 : Int32)), .ref (g_b X + 78)]) (fun a ha => g_runV C (nargs := 2) (As := [.int (0 : Int32), .int (999 : Int32)]) (rest := [.int (v1 + (1 : Int32)), .ref (g_b X + 78)]) gX11_readPerson_X11_number rfl (by decide +kernel) rfl t77 rfl rfl rfl rfl dX11_readPerson_37 (k_m_X11_number X.1.2.1 X.2.1 (g_n X) (g_T X) (g_ag_sub hA (by decide +kernel)) N (0 : Int32) (999 : Int32) σ4 a ha)) (fun q5 => ?_)
  refine G_chk (fun h6 => ?_)
  refine G_ast C t78 h6 dX11_readPerson_40 ?_
  refine G_lts (fun σ7 => ?_)
  refine G_aload_n C dX11_readPerson_41 rfl 1 rfl ?_
  refine G_getR C f_X11_readPerson_7 t77 rfl dX11_readPerson_42 ?_
  refine G_iconst C dX11_readPerson_45 (v := 0) (by decide +kernel) ?_
  refine G_dup2 C dX11_readPerson_46 rfl rfl ?_
  refine G_aldk C t78 (by decide +kernel) (k := 0) rfl dX11_readPerson_47 ?_
  refine G_iconst C dX11_readPerson_48 (v := 1) (by decide +kernel) ?_
  refine G_iadd C dX11_readPerson_49 ?_
  refine G_astk C t78 (by decide +kernel) (k := 0) rfl dX11_readPerson_50 ?_
  refine G_lts (fun σ8 => ?_)
  exact G_vret C q dX11_readPerson_51
theorem k_m_X11_readPerson (l : Launch) (E : g_E) (n : Nat) (T : Nat → g_Sh) (hA : g_ag L_m_X11_readPerson n T) (N : Nat) (σ : g_St) (a : g_St) (h : m_X11_readPerson N σ = some a) : Met l yX11_readPerson wsX11_readPerson rm_m_X11_readPerson (g_Pc E n T [.ref (E.2.1 + 77)] σ) (g_Qv E n T a) 0 0 (g_A E) :=
  g_metV (by decide +kernel) rfl rfl (Nat.le_of_ble_eq_true rfl) (fun M Qf C q => by rw [← h]; exact w_m_X11_readPerson_0 C q hA N σ)
def L_m_X11_readTicket : List Nat := [77, 78, 80]
abbrev rm_m_X11_readTicket : Room := { frames := 2, cells := 0, slots := 0, locals := 49 }
theorem f_X11_readTicket_7 : g_Fld wsX11_readTicket RX11 7 11 0 := ⟨RX11, TX11, 27, rfl, by decide +kernel, by decide, by decide +kernel⟩
set_option maxHeartbeats 4000000 in
set_option maxRecDepth 100000 in
theorem w_m_X11_readTicket_0 {X : g_X (g_St)} (C : g_C X cX11_readTicket RX11 wsX11_readTicket rm_m_X11_readTicket 2) (q : g_qV X) (hA : g_ag L_m_X11_readTicket (g_n X) (g_T X)) (N : Nat) (σ : g_St) : G X 0 [(0, .ref (g_b X + 77))] [] σ (m_X11_readTicket N σ) := by
  have t77 := g_ag_at hA (c := 77) rfl tc77
  have t78 := g_ag_at hA (c := 78) rfl tc78
  unfold m_X11_readTicket
  refine G_bipush C dX11_readTicket_0 (v := 21) (by decide +kernel) ?_
  refine G_iconst C dX11_readTicket_2 (v := 3) (by decide +kernel) ?_
  refine G_aload_n C dX11_readTicket_3 rfl 0 rfl ?_
  refine G_getR C f_X11_readTicket_7 t77 rfl dX11_readTicket_4 ?_
  refine G_iconst C dX11_readTicket_7 (v := 1) (by decide +kernel) ?_
  refine G_aldk C t78 (by decide +kernel) (k := 1) rfl dX11_readTicket_8 ?_
  refine G_imul C dX11_readTicket_9 ?_
  refine G_iadd C dX11_readTicket_10 ?_
  refine G_lti (fun v1 => ?_)
  refine G_istore_n C dX11_readTicket_11 rfl rfl (lv' := [(1, .int v1), (0, .ref (g_b X + 77))]) rfl ?_
  refine G_aload_n C dX11_readTicket_12 rfl 1 rfl ?_
  refine G_getR C f_X11_readTicket_7 t77 rfl dX11_readTicket_13 ?_
  refine G_iload_n C dX11_readTicket_16 rfl 0 rfl ?_
  refine G_aload_n C dX11_readTicket_17 rfl 1 rfl ?_
  refine G_iconst C dX11_readTicket_18 (v := 0) (by decide +kernel) ?_
  refine G_aload_n C dX11_readTicket_19 rfl 1 rfl ?_
  refine G_getR C f_X11_readTicket_7 t77 rfl dX11_readTicket_20 ?_
  refine G_iconst C dX11_readTicket_23 (v := 0) (by decide +kernel) ?_
  refine G_aldk C t78 (by decide +kernel) (k := 0) rfl dX11_readTicket_24 ?_
  refine G_iconst C dX11_readTicket_25 (v := 1) (by decide +kernel) ?_
  refine G_isub C dX11_readTicket_26 ?_
  refine G_callI (rest := [.int v1, .ref (g_b X + 78)]) (fun a ha => g_runV C (nargs := 2) (As := [.int (0 : Int32), .int ((σ.1 78 0) - (1 : Int32))]) (rest := [.int v1, .ref (g_b X + 78)]) gX11_readTicket_X11_number rfl (by decide +kernel) rfl t77 rfl rfl rfl rfl dX11_readTicket_27 (k_m_X11_number X.1.2.1 X.2.1 (g_n X) (g_T X) (g_ag_sub hA (by decide +kernel)) N (0 : Int32) ((σ.1 78 0) - (1 : Int32)) σ a ha)) (fun q2 => ?_)
  refine G_chk (fun h3 => ?_)
  refine G_ast C t78 h3 dX11_readTicket_30 ?_
  refine G_lts (fun σ4 => ?_)
  refine G_aload_n C dX11_readTicket_31 rfl 1 rfl ?_
  refine G_getR C f_X11_readTicket_7 t77 rfl dX11_readTicket_32 ?_
  refine G_iload_n C dX11_readTicket_35 rfl 0 rfl ?_
  refine G_iconst C dX11_readTicket_36 (v := 1) (by decide +kernel) ?_
  refine G_iadd C dX11_readTicket_37 ?_
  refine G_aload_n C dX11_readTicket_38 rfl 1 rfl ?_
  refine G_iconst C dX11_readTicket_39 (v := 1) (by decide +kernel) ?_
  refine G_bipush C dX11_readTicket_40 (v := 9) (by decide +kernel) ?_
  refine G_callI (rest := [.int (v1 + (1 : Int32)), .ref (g_b X + 78)]) (fun a ha => g_runV C (nargs := 2) (As := [.int (1 : Int32), .int (9 : Int32)]) (rest := [.int (v1 + (1 : Int32)), .ref (g_b X + 78)]) gX11_readTicket_X11_number rfl (by decide +kernel) rfl t77 rfl rfl rfl rfl dX11_readTicket_42 (k_m_X11_number X.1.2.1 X.2.1 (g_n X) (g_T X) (g_ag_sub hA (by decide +kernel)) N (1 : Int32) (9 : Int32) σ4 a ha)) (fun q5 => ?_)
  refine G_chk (fun h6 => ?_)
  refine G_ast C t78 h6 dX11_readTicket_45 ?_
  refine G_lts (fun σ7 => ?_)
  refine G_aload_n C dX11_readTicket_46 rfl 1 rfl ?_
  refine G_getR C f_X11_readTicket_7 t77 rfl dX11_readTicket_47 ?_
  refine G_iload_n C dX11_readTicket_50 rfl 0 rfl ?_
  refine G_iconst C dX11_readTicket_51 (v := 2) (by decide +kernel) ?_
  refine G_iadd C dX11_readTicket_52 ?_
  refine G_aload_n C dX11_readTicket_53 rfl 1 rfl ?_
  refine G_iconst C dX11_readTicket_54 (v := 0) (by decide +kernel) ?_
  refine G_bipush C dX11_readTicket_55 (v := 99) (by decide +kernel) ?_
  refine G_callI (rest := [.int (v1 + (2 : Int32)), .ref (g_b X + 78)]) (fun a ha => g_runV C (nargs := 2) (As := [.int (0 : Int32), .int (99 : Int32)]) (rest := [.int (v1 + (2 : Int32)), .ref (g_b X + 78)]) gX11_readTicket_X11_number rfl (by decide +kernel) rfl t77 rfl rfl rfl rfl dX11_readTicket_57 (k_m_X11_number X.1.2.1 X.2.1 (g_n X) (g_T X) (g_ag_sub hA (by decide +kernel)) N (0 : Int32) (99 : Int32) σ7 a ha)) (fun q8 => ?_)
  refine G_chk (fun h9 => ?_)
  refine G_ast C t78 h9 dX11_readTicket_60 ?_
  refine G_lts (fun σ10 => ?_)
  refine G_aload_n C dX11_readTicket_61 rfl 1 rfl ?_
  refine G_getR C f_X11_readTicket_7 t77 rfl dX11_readTicket_62 ?_
  refine G_iconst C dX11_readTicket_65 (v := 1) (by decide +kernel) ?_
  refine G_dup2 C dX11_readTicket_66 rfl rfl ?_
  refine G_aldk C t78 (by decide +kernel) (k := 1) rfl dX11_readTicket_67 ?_
  refine G_iconst C dX11_readTicket_68 (v := 1) (by decide +kernel) ?_
  refine G_iadd C dX11_readTicket_69 ?_
  refine G_astk C t78 (by decide +kernel) (k := 1) rfl dX11_readTicket_70 ?_
  refine G_lts (fun σ11 => ?_)
  exact G_vret C q dX11_readTicket_71
theorem k_m_X11_readTicket (l : Launch) (E : g_E) (n : Nat) (T : Nat → g_Sh) (hA : g_ag L_m_X11_readTicket n T) (N : Nat) (σ : g_St) (a : g_St) (h : m_X11_readTicket N σ = some a) : Met l yX11_readTicket wsX11_readTicket rm_m_X11_readTicket (g_Pc E n T [.ref (E.2.1 + 77)] σ) (g_Qv E n T a) 0 0 (g_A E) :=
  g_metV (by decide +kernel) rfl rfl (Nat.le_of_ble_eq_true rfl) (fun M Qf C q => by rw [← h]; exact w_m_X11_readTicket_0 C q hA N σ)
def L_m_X11_clause : List Nat := [77, 78, 80]
abbrev rm_m_X11_clause : Room := { frames := 3, cells := 0, slots := 0, locals := 70 }
theorem f_X11_clause_7 : g_Fld wsX11_clause RX11 7 11 0 := ⟨RX11, TX11, 27, rfl, by decide +kernel, by decide, by decide +kernel⟩
theorem f_X11_clause_76 : g_Fld wsX11_clause RX11 76 11 4 := ⟨RX11, TX11, 27, rfl, by decide +kernel, by decide, by decide +kernel⟩
theorem f_X11_clause_79 : g_Fld wsX11_clause RX11 79 11 5 := ⟨RX11, TX11, 27, rfl, by decide +kernel, by decide, by decide +kernel⟩
theorem p_X11_clause_76 : g_FldP wsX11_clause RX11 76 11 4 .int := ⟨RX11, TX11, 27, tyX11, rfl, by decide +kernel, by decide, by decide +kernel, tyX11_ok, nmX11, rfl, by decide +kernel⟩
set_option maxHeartbeats 4000000 in
set_option maxRecDepth 100000 in
theorem w_m_X11_clause_267 {X : g_X (g_St)} (C : g_C X cX11_clause RX11 wsX11_clause rm_m_X11_clause 4) (q : g_qV X) (hA : g_ag L_m_X11_clause (g_n X) (g_T X)) (N : Nat) (σ : g_St) : G X 267 [(0, .ref (g_b X + 77))] [] σ (m_X11_clause_267 N σ) := by
  have t77 := g_ag_at hA (c := 77) rfl tc77
  unfold m_X11_clause_267
  refine G_aload_n C dX11_clause_267 rfl 0 rfl ?_
  refine G_dup C dX11_clause_268 rfl ?_
  refine G_getI C f_X11_clause_76 t77 rfl dX11_clause_269 ?_
  refine G_iconst C dX11_clause_272 (v := 1) (by decide +kernel) ?_
  refine G_iadd C dX11_clause_273 ?_
  refine G_putI C p_X11_clause_76 t77 rfl rfl rfl dX11_clause_274 ?_
  refine G_lts (fun σ1 => ?_)
  exact G_vret C q dX11_clause_277
set_option maxHeartbeats 4000000 in
set_option maxRecDepth 100000 in
theorem w_m_X11_clause_242 {X : g_X (g_St)} (C : g_C X cX11_clause RX11 wsX11_clause rm_m_X11_clause 4) (q : g_qV X) (hA : g_ag L_m_X11_clause (g_n X) (g_T X)) (N : Nat) (σ : g_St) : G X 242 [(0, .ref (g_b X + 77))] [] σ (m_X11_clause_242 N σ) := by
  have t77 := g_ag_at hA (c := 77) rfl tc77
  unfold m_X11_clause_242
  refine G_aload_n C dX11_clause_242 rfl 0 rfl ?_
  refine G_getI C f_X11_clause_79 t77 rfl dX11_clause_243 ?_
  refine G_if_ne C dX11_clause_246 (tgt := 267) (by decide) (fun c1 => ?_) (fun c1 => ?_)
  · refine G_aload_n C dX11_clause_249 rfl 0 rfl ?_
    refine G_callI (rest := []) (fun a ha => g_runV C (nargs := 0) (As := []) (rest := []) gX11_clause_X11_here rfl (by decide +kernel) rfl t77 rfl rfl rfl rfl dX11_clause_250 (k_m_X11_here X.1.2.1 X.2.1 (g_n X) (g_T X) (g_ag_sub hA (by decide +kernel)) N σ a ha)) (fun q2 => ?_)
    refine G_bipush C dX11_clause_253 (v := 59) (by decide +kernel) ?_
    refine G_icmp_eq C dX11_clause_255 (tgt := 267) (by decide) (fun c3 => ?_) (fun c3 => ?_)
    · exact w_m_X11_clause_267 C q hA N q2.2
    · refine G_aload_n C dX11_clause_258 rfl 0 rfl ?_
      refine G_iconst C dX11_clause_259 (v := 1) (by decide +kernel) ?_
      refine G_aload_n C dX11_clause_260 rfl 0 rfl ?_
      refine G_getI C f_X11_clause_76 t77 rfl dX11_clause_261 ?_
      refine G_callV (rest := []) (fun a ha => g_runV C (nargs := 2) (As := [.int (1 : Int32), .int (q2.2.1 77 4)]) (rest := []) gX11_clause_X11_faults rfl (by decide +kernel) rfl t77 rfl rfl rfl rfl dX11_clause_264 (k_m_X11_faults X.1.2.1 X.2.1 (g_n X) (g_T X) (g_ag_sub hA (by decide +kernel)) (1 : Int32) (q2.2.1 77 4) q2.2 a ha)) (fun σ4 => ?_)
      exact w_m_X11_clause_267 C q hA N σ4
  · exact w_m_X11_clause_267 C q hA N σ
set_option maxHeartbeats 4000000 in
set_option maxRecDepth 100000 in
theorem w_m_X11_clause_206 {X : g_X (g_St)} (C : g_C X cX11_clause RX11 wsX11_clause rm_m_X11_clause 4) (q : g_qV X) (hA : g_ag L_m_X11_clause (g_n X) (g_T X)) (N : Nat) : ∀ (fu : Nat) (x3 : Int32) (σ : g_St), G X 206 [(0, .ref (g_b X + 77)), (3, .int x3)] [] σ (m_X11_clause_206 N fu x3 σ) := by
  have t77 := g_ag_at hA (c := 77) rfl tc77
  have t78 := g_ag_at hA (c := 78) rfl tc78
  intro fu
  induction fu with
  | zero => intro x3 σ; exact G_none
  | succ fu ih =>
    intro x3 σ
    unfold m_X11_clause_206
    refine G_iload_n C dX11_clause_206 rfl 1 rfl ?_
    refine G_iconst C dX11_clause_207 (v := 4) (by decide +kernel) ?_
    refine G_icmp_ge C dX11_clause_208 (tgt := 232) (by decide) (fun c1 => ?_) (fun c1 => ?_)
    · refine G_aload_n C dX11_clause_232 rfl 0 rfl ?_
      refine G_getR C f_X11_clause_7 t77 rfl dX11_clause_233 ?_
      refine G_iconst C dX11_clause_236 (v := 4) (by decide +kernel) ?_
      refine G_dup2 C dX11_clause_237 rfl rfl ?_
      refine G_aldk C t78 (by decide +kernel) (k := 4) rfl dX11_clause_238 ?_
      refine G_iconst C dX11_clause_239 (v := 2) (by decide +kernel) ?_
      refine G_ior C dX11_clause_240 ?_
      refine G_astk C t78 (by decide +kernel) (k := 4) rfl dX11_clause_241 ?_
      refine G_lts (fun σ2 => ?_)
      exact G_sub (w_m_X11_clause_242 C q hA N σ2) [0] rfl
    · refine G_aload_n C dX11_clause_211 rfl 0 rfl ?_
      refine G_getR C f_X11_clause_7 t77 rfl dX11_clause_212 ?_
      refine G_iconst C dX11_clause_215 (v := 5) (by decide +kernel) ?_
      refine G_iload_n C dX11_clause_216 rfl 1 rfl ?_
      refine G_iadd C dX11_clause_217 ?_
      refine G_aload_n C dX11_clause_218 rfl 0 rfl ?_
      refine G_iconst C dX11_clause_219 (v := 0) (by decide +kernel) ?_
      refine G_bipush C dX11_clause_220 (v := 99) (by decide +kernel) ?_
      refine G_callI (rest := [.int ((5 : Int32) + x3), .ref (g_b X + 78)]) (fun a ha => g_runV C (nargs := 2) (As := [.int (0 : Int32), .int (99 : Int32)]) (rest := [.int ((5 : Int32) + x3), .ref (g_b X + 78)]) gX11_clause_X11_number rfl (by decide +kernel) rfl t77 rfl rfl rfl rfl dX11_clause_222 (k_m_X11_number X.1.2.1 X.2.1 (g_n X) (g_T X) (g_ag_sub hA (by decide +kernel)) N (0 : Int32) (99 : Int32) σ a ha)) (fun q3 => ?_)
      refine G_chk (fun h4 => ?_)
      refine G_ast C t78 h4 dX11_clause_225 ?_
      refine G_lts (fun σ5 => ?_)
      refine G_iinc C dX11_clause_226 1 rfl (v := (x3 + (1 : Int32))) (by rfl) rfl (lv' := [(3, .int (x3 + (1 : Int32))), (0, .ref (g_b X + 77))]) rfl ?_
      refine G_ltv (fun v => [(3, .int v), (0, .ref (g_b X + 77))]) (fun v6 => ?_)
      refine G_goto C dX11_clause_229 (tgt := 206) (by decide) ?_
      exact G_sub (ih v6 σ5) [1, 0] rfl
set_option maxHeartbeats 4000000 in
set_option maxRecDepth 100000 in
theorem w_m_X11_clause_116 {X : g_X (g_St)} (C : g_C X cX11_clause RX11 wsX11_clause rm_m_X11_clause 4) (q : g_qV X) (hA : g_ag L_m_X11_clause (g_n X) (g_T X)) (N : Nat) (x1 : Int32) (σ : g_St) : G X 116 [(0, .ref (g_b X + 77)), (1, .int x1)] [] σ (m_X11_clause_116 N x1 σ) := by
  have t77 := g_ag_at hA (c := 77) rfl tc77
  have t78 := g_ag_at hA (c := 78) rfl tc78
  unfold m_X11_clause_116
  refine G_aload_n C dX11_clause_116 rfl 0 rfl ?_
  refine G_getI C f_X11_clause_79 t77 rfl dX11_clause_117 ?_
  refine G_if_eq C dX11_clause_120 (tgt := 124) (by decide) (fun c1 => ?_) (fun c1 => ?_)
  · refine G_aload_n C dX11_clause_124 rfl 0 rfl ?_
    refine G_dup C dX11_clause_125 rfl ?_
    refine G_getI C f_X11_clause_76 t77 rfl dX11_clause_126 ?_
    refine G_iconst C dX11_clause_129 (v := 1) (by decide +kernel) ?_
    refine G_iadd C dX11_clause_130 ?_
    refine G_putI C p_X11_clause_76 t77 rfl rfl rfl dX11_clause_131 ?_
    refine G_lts (fun σ2 => ?_)
    refine G_iload_n C dX11_clause_134 rfl 1 rfl ?_
    refine G_bipush C dX11_clause_135 (v := 112) (by decide +kernel) ?_
    refine G_icmp_ne C dX11_clause_137 (tgt := 147) (by decide) (fun c3 => ?_) (fun c3 => ?_)
    · refine G_aload_n C dX11_clause_140 rfl 0 rfl ?_
      refine G_callV (rest := []) (fun a ha => g_runV C (nargs := 0) (As := []) (rest := []) gX11_clause_X11_readPerson rfl (by decide +kernel) rfl t77 rfl rfl rfl rfl dX11_clause_141 (k_m_X11_readPerson X.1.2.1 X.2.1 (g_n X) (g_T X) (g_ag_sub hA (by decide +kernel)) N σ2 a ha)) (fun σ12 => ?_)
      refine G_goto C dX11_clause_144 (tgt := 242) (by decide) ?_
      exact G_sub (w_m_X11_clause_242 C q hA N σ12) [0] rfl
    · refine G_iload_n C dX11_clause_147 rfl 1 rfl ?_
      refine G_bipush C dX11_clause_148 (v := 116) (by decide +kernel) ?_
      refine G_icmp_ne C dX11_clause_150 (tgt := 160) (by decide) (fun c4 => ?_) (fun c4 => ?_)
      · refine G_aload_n C dX11_clause_153 rfl 0 rfl ?_
        refine G_callV (rest := []) (fun a ha => g_runV C (nargs := 0) (As := []) (rest := []) gX11_clause_X11_readTicket rfl (by decide +kernel) rfl t77 rfl rfl rfl rfl dX11_clause_154 (k_m_X11_readTicket X.1.2.1 X.2.1 (g_n X) (g_T X) (g_ag_sub hA (by decide +kernel)) N σ2 a ha)) (fun σ11 => ?_)
        refine G_goto C dX11_clause_157 (tgt := 242) (by decide) ?_
        exact G_sub (w_m_X11_clause_242 C q hA N σ11) [0] rfl
      · refine G_iload_n C dX11_clause_160 rfl 1 rfl ?_
        refine G_bipush C dX11_clause_161 (v := 121) (by decide +kernel) ?_
        refine G_icmp_ne C dX11_clause_163 (tgt := 204) (by decide) (fun c5 => ?_) (fun c5 => ?_)
        · refine G_aload_n C dX11_clause_166 rfl 0 rfl ?_
          refine G_getR C f_X11_clause_7 t77 rfl dX11_clause_167 ?_
          refine G_iconst C dX11_clause_170 (v := 2) (by decide +kernel) ?_
          refine G_aload_n C dX11_clause_171 rfl 0 rfl ?_
          refine G_iconst C dX11_clause_172 (v := 1) (by decide +kernel) ?_
          refine G_bipush C dX11_clause_173 (v := 8) (by decide +kernel) ?_
          refine G_callI (rest := [.int (2 : Int32), .ref (g_b X + 78)]) (fun a ha => g_runV C (nargs := 2) (As := [.int (1 : Int32), .int (8 : Int32)]) (rest := [.int (2 : Int32), .ref (g_b X + 78)]) gX11_clause_X11_number rfl (by decide +kernel) rfl t77 rfl rfl rfl rfl dX11_clause_175 (k_m_X11_number X.1.2.1 X.2.1 (g_n X) (g_T X) (g_ag_sub hA (by decide +kernel)) N (1 : Int32) (8 : Int32) σ2 a ha)) (fun q6 => ?_)
          refine G_astk C t78 (by decide +kernel) (k := 2) rfl dX11_clause_178 ?_
          refine G_lts (fun σ7 => ?_)
          refine G_aload_n C dX11_clause_179 rfl 0 rfl ?_
          refine G_getR C f_X11_clause_7 t77 rfl dX11_clause_180 ?_
          refine G_iconst C dX11_clause_183 (v := 3) (by decide +kernel) ?_
          refine G_aload_n C dX11_clause_184 rfl 0 rfl ?_
          refine G_iconst C dX11_clause_185 (v := 0) (by decide +kernel) ?_
          refine G_iconst C dX11_clause_186 (v := 1) (by decide +kernel) ?_
          refine G_callI (rest := [.int (3 : Int32), .ref (g_b X + 78)]) (fun a ha => g_runV C (nargs := 2) (As := [.int (0 : Int32), .int (1 : Int32)]) (rest := [.int (3 : Int32), .ref (g_b X + 78)]) gX11_clause_X11_number rfl (by decide +kernel) rfl t77 rfl rfl rfl rfl dX11_clause_187 (k_m_X11_number X.1.2.1 X.2.1 (g_n X) (g_T X) (g_ag_sub hA (by decide +kernel)) N (0 : Int32) (1 : Int32) σ7 a ha)) (fun q8 => ?_)
          refine G_astk C t78 (by decide +kernel) (k := 3) rfl dX11_clause_190 ?_
          refine G_lts (fun σ9 => ?_)
          refine G_aload_n C dX11_clause_191 rfl 0 rfl ?_
          refine G_getR C f_X11_clause_7 t77 rfl dX11_clause_192 ?_
          refine G_iconst C dX11_clause_195 (v := 4) (by decide +kernel) ?_
          refine G_dup2 C dX11_clause_196 rfl rfl ?_
          refine G_aldk C t78 (by decide +kernel) (k := 4) rfl dX11_clause_197 ?_
          refine G_iconst C dX11_clause_198 (v := 1) (by decide +kernel) ?_
          refine G_ior C dX11_clause_199 ?_
          refine G_astk C t78 (by decide +kernel) (k := 4) rfl dX11_clause_200 ?_
          refine G_lts (fun σ10 => ?_)
          refine G_goto C dX11_clause_201 (tgt := 242) (by decide) ?_
          exact G_sub (w_m_X11_clause_242 C q hA N σ10) [0] rfl
        · refine G_iconst C dX11_clause_204 (v := 0) (by decide +kernel) ?_
          refine G_istore_n C dX11_clause_205 rfl rfl (lv' := [(3, .int (0 : Int32)), (0, .ref (g_b X + 77)), (1, .int x1)]) rfl ?_
          exact G_sub (w_m_X11_clause_206 C q hA N N (0 : Int32) σ2) [1, 0] rfl
  · exact G_vret C q dX11_clause_123
set_option maxHeartbeats 4000000 in
set_option maxRecDepth 100000 in
theorem w_m_X11_clause_86 {X : g_X (g_St)} (C : g_C X cX11_clause RX11 wsX11_clause rm_m_X11_clause 4) (q : g_qV X) (hA : g_ag L_m_X11_clause (g_n X) (g_T X)) (N : Nat) (x1 : Int32) (x2 : Int32) (σ : g_St) : G X 86 [(0, .ref (g_b X + 77)), (1, .int x1), (2, .int x2)] [] σ (m_X11_clause_86 N x1 x2 σ) := by
  have t77 := g_ag_at hA (c := 77) rfl tc77
  unfold m_X11_clause_86
  refine G_iload_n C dX11_clause_86 rfl 1 rfl ?_
  refine G_bipush C dX11_clause_87 (v := 112) (by decide +kernel) ?_
  refine G_icmp_eq C dX11_clause_89 (tgt := 116) (by decide) (fun c1 => ?_) (fun c1 => ?_)
  · exact G_sub (w_m_X11_clause_116 C q hA N x1 σ) [0, 1] rfl
  · refine G_iload_n C dX11_clause_92 rfl 1 rfl ?_
    refine G_bipush C dX11_clause_93 (v := 116) (by decide +kernel) ?_
    refine G_icmp_eq C dX11_clause_95 (tgt := 116) (by decide) (fun c2 => ?_) (fun c2 => ?_)
    · exact G_sub (w_m_X11_clause_116 C q hA N x1 σ) [0, 1] rfl
    · refine G_iload_n C dX11_clause_98 rfl 1 rfl ?_
      refine G_bipush C dX11_clause_99 (v := 121) (by decide +kernel) ?_
      refine G_icmp_eq C dX11_clause_101 (tgt := 116) (by decide) (fun c3 => ?_) (fun c3 => ?_)
      · exact G_sub (w_m_X11_clause_116 C q hA N x1 σ) [0, 1] rfl
      · refine G_iload_n C dX11_clause_104 rfl 1 rfl ?_
        refine G_bipush C dX11_clause_105 (v := 114) (by decide +kernel) ?_
        refine G_icmp_eq C dX11_clause_107 (tgt := 116) (by decide) (fun c4 => ?_) (fun c4 => ?_)
        · exact G_sub (w_m_X11_clause_116 C q hA N x1 σ) [0, 1] rfl
        · refine G_aload_n C dX11_clause_110 rfl 0 rfl ?_
          refine G_iconst C dX11_clause_111 (v := 1) (by decide +kernel) ?_
          refine G_iload_n C dX11_clause_112 rfl 2 rfl ?_
          refine G_callV (rest := []) (fun a ha => g_runV C (nargs := 2) (As := [.int (1 : Int32), .int x2]) (rest := []) gX11_clause_X11_faults rfl (by decide +kernel) rfl t77 rfl rfl rfl rfl dX11_clause_113 (k_m_X11_faults X.1.2.1 X.2.1 (g_n X) (g_T X) (g_ag_sub hA (by decide +kernel)) (1 : Int32) x2 σ a ha)) (fun σ5 => ?_)
          exact G_sub (w_m_X11_clause_116 C q hA N x1 σ5) [0, 1] rfl
set_option maxHeartbeats 4000000 in
set_option maxRecDepth 100000 in
theorem w_m_X11_clause_80 {X : g_X (g_St)} (C : g_C X cX11_clause RX11 wsX11_clause rm_m_X11_clause 4) (q : g_qV X) (hA : g_ag L_m_X11_clause (g_n X) (g_T X)) (N : Nat) (x1 : Int32) (x2 : Int32) (σ : g_St) : G X 80 [(0, .ref (g_b X + 77)), (1, .int x1), (2, .int x2)] [] σ (m_X11_clause_80 N x1 x2 σ) := by
  have t77 := g_ag_at hA (c := 77) rfl tc77
  unfold m_X11_clause_80
  refine G_aload_n C dX11_clause_80 rfl 0 rfl ?_
  refine G_iconst C dX11_clause_81 (v := 3) (by decide +kernel) ?_
  refine G_iload_n C dX11_clause_82 rfl 2 rfl ?_
  refine G_callV (rest := []) (fun a ha => g_runV C (nargs := 2) (As := [.int (3 : Int32), .int x2]) (rest := []) gX11_clause_X11_faults rfl (by decide +kernel) rfl t77 rfl rfl rfl rfl dX11_clause_83 (k_m_X11_faults X.1.2.1 X.2.1 (g_n X) (g_T X) (g_ag_sub hA (by decide +kernel)) (3 : Int32) x2 σ a ha)) (fun σ1 => ?_)
  exact w_m_X11_clause_86 C q hA N x1 x2 σ1
set_option maxHeartbeats 4000000 in
set_option maxRecDepth 100000 in
theorem w_m_X11_clause_62 {X : g_X (g_St)} (C : g_C X cX11_clause RX11 wsX11_clause rm_m_X11_clause 4) (q : g_qV X) (hA : g_ag L_m_X11_clause (g_n X) (g_T X)) (N : Nat) (x1 : Int32) (x2 : Int32) (σ : g_St) : G X 62 [(0, .ref (g_b X + 77)), (1, .int x1), (2, .int x2)] [] σ (m_X11_clause_62 N x1 x2 σ) := by
  have t77 := g_ag_at hA (c := 77) rfl tc77
  have t78 := g_ag_at hA (c := 78) rfl tc78
  unfold m_X11_clause_62
  refine G_iload_n C dX11_clause_62 rfl 1 rfl ?_
  refine G_bipush C dX11_clause_63 (v := 114) (by decide +kernel) ?_
  refine G_icmp_ne C dX11_clause_65 (tgt := 86) (by decide) (fun c1 => ?_) (fun c1 => ?_)
  · refine G_aload_n C dX11_clause_68 rfl 0 rfl ?_
    refine G_getR C f_X11_clause_7 t77 rfl dX11_clause_69 ?_
    refine G_iconst C dX11_clause_72 (v := 4) (by decide +kernel) ?_
    refine G_aldk C t78 (by decide +kernel) (k := 4) rfl dX11_clause_73 ?_
    refine G_iconst C dX11_clause_74 (v := 2) (by decide +kernel) ?_
    refine G_iand C dX11_clause_75 ?_
    refine G_iconst C dX11_clause_76 (v := 2) (by decide +kernel) ?_
    refine G_icmp_ne C dX11_clause_77 (tgt := 86) (by decide) (fun c2 => ?_) (fun c2 => ?_)
    · exact w_m_X11_clause_80 C q hA N x1 x2 σ
    · exact w_m_X11_clause_86 C q hA N x1 x2 σ
  · exact w_m_X11_clause_86 C q hA N x1 x2 σ
set_option maxHeartbeats 4000000 in
set_option maxRecDepth 100000 in
theorem w_m_X11_clause_44 {X : g_X (g_St)} (C : g_C X cX11_clause RX11 wsX11_clause rm_m_X11_clause 4) (q : g_qV X) (hA : g_ag L_m_X11_clause (g_n X) (g_T X)) (N : Nat) (x1 : Int32) (x2 : Int32) (σ : g_St) : G X 44 [(0, .ref (g_b X + 77)), (1, .int x1), (2, .int x2)] [] σ (m_X11_clause_44 N x1 x2 σ) := by
  have t77 := g_ag_at hA (c := 77) rfl tc77
  have t78 := g_ag_at hA (c := 78) rfl tc78
  unfold m_X11_clause_44
  refine G_iload_n C dX11_clause_44 rfl 1 rfl ?_
  refine G_bipush C dX11_clause_45 (v := 121) (by decide +kernel) ?_
  refine G_icmp_ne C dX11_clause_47 (tgt := 62) (by decide) (fun c1 => ?_) (fun c1 => ?_)
  · refine G_aload_n C dX11_clause_50 rfl 0 rfl ?_
    refine G_getR C f_X11_clause_7 t77 rfl dX11_clause_51 ?_
    refine G_iconst C dX11_clause_54 (v := 4) (by decide +kernel) ?_
    refine G_aldk C t78 (by decide +kernel) (k := 4) rfl dX11_clause_55 ?_
    refine G_iconst C dX11_clause_56 (v := 1) (by decide +kernel) ?_
    refine G_iand C dX11_clause_57 ?_
    refine G_iconst C dX11_clause_58 (v := 1) (by decide +kernel) ?_
    refine G_icmp_eq C dX11_clause_59 (tgt := 80) (by decide) (fun c2 => ?_) (fun c2 => ?_)
    · exact w_m_X11_clause_80 C q hA N x1 x2 σ
    · exact w_m_X11_clause_62 C q hA N x1 x2 σ
  · exact w_m_X11_clause_62 C q hA N x1 x2 σ
set_option maxHeartbeats 4000000 in
set_option maxRecDepth 100000 in
theorem w_m_X11_clause_27 {X : g_X (g_St)} (C : g_C X cX11_clause RX11 wsX11_clause rm_m_X11_clause 4) (q : g_qV X) (hA : g_ag L_m_X11_clause (g_n X) (g_T X)) (N : Nat) (x1 : Int32) (x2 : Int32) (σ : g_St) : G X 27 [(0, .ref (g_b X + 77)), (1, .int x1), (2, .int x2)] [] σ (m_X11_clause_27 N x1 x2 σ) := by
  have t77 := g_ag_at hA (c := 77) rfl tc77
  have t78 := g_ag_at hA (c := 78) rfl tc78
  unfold m_X11_clause_27
  refine G_iload_n C dX11_clause_27 rfl 1 rfl ?_
  refine G_bipush C dX11_clause_28 (v := 116) (by decide +kernel) ?_
  refine G_icmp_ne C dX11_clause_30 (tgt := 44) (by decide) (fun c1 => ?_) (fun c1 => ?_)
  · refine G_aload_n C dX11_clause_33 rfl 0 rfl ?_
    refine G_getR C f_X11_clause_7 t77 rfl dX11_clause_34 ?_
    refine G_iconst C dX11_clause_37 (v := 1) (by decide +kernel) ?_
    refine G_aldk C t78 (by decide +kernel) (k := 1) rfl dX11_clause_38 ?_
    refine G_bipush C dX11_clause_39 (v := 8) (by decide +kernel) ?_
    refine G_icmp_eq C dX11_clause_41 (tgt := 80) (by decide) (fun c2 => ?_) (fun c2 => ?_)
    · exact w_m_X11_clause_80 C q hA N x1 x2 σ
    · exact w_m_X11_clause_44 C q hA N x1 x2 σ
  · exact w_m_X11_clause_44 C q hA N x1 x2 σ
set_option maxHeartbeats 4000000 in
set_option maxRecDepth 100000 in
theorem w_m_X11_clause_0 {X : g_X (g_St)} (C : g_C X cX11_clause RX11 wsX11_clause rm_m_X11_clause 4) (q : g_qV X) (hA : g_ag L_m_X11_clause (g_n X) (g_T X)) (N : Nat) (σ : g_St) : G X 0 [(0, .ref (g_b X + 77))] [] σ (m_X11_clause N σ) := by
  have t77 := g_ag_at hA (c := 77) rfl tc77
  have t78 := g_ag_at hA (c := 78) rfl tc78
  unfold m_X11_clause
  refine G_aload_n C dX11_clause_0 rfl 0 rfl ?_
  refine G_callI (rest := []) (fun a ha => g_runV C (nargs := 0) (As := []) (rest := []) gX11_clause_X11_here rfl (by decide +kernel) rfl t77 rfl rfl rfl rfl dX11_clause_1 (k_m_X11_here X.1.2.1 X.2.1 (g_n X) (g_T X) (g_ag_sub hA (by decide +kernel)) N σ a ha)) (fun q1 => ?_)
  refine G_istore_n C dX11_clause_4 rfl rfl (lv' := [(1, .int q1.1), (0, .ref (g_b X + 77))]) rfl ?_
  refine G_aload_n C dX11_clause_5 rfl 1 rfl ?_
  refine G_getI C f_X11_clause_76 t77 rfl dX11_clause_6 ?_
  refine G_lti (fun v2 => ?_)
  refine G_istore_n C dX11_clause_9 rfl rfl (lv' := [(2, .int v2), (1, .int q1.1), (0, .ref (g_b X + 77))]) rfl ?_
  refine G_iload_n C dX11_clause_10 rfl 1 rfl ?_
  refine G_bipush C dX11_clause_11 (v := 112) (by decide +kernel) ?_
  refine G_icmp_ne C dX11_clause_13 (tgt := 27) (by decide) (fun c3 => ?_) (fun c3 => ?_)
  · refine G_aload_n C dX11_clause_16 rfl 2 rfl ?_
    refine G_getR C f_X11_clause_7 t77 rfl dX11_clause_17 ?_
    refine G_iconst C dX11_clause_20 (v := 0) (by decide +kernel) ?_
    refine G_aldk C t78 (by decide +kernel) (k := 0) rfl dX11_clause_21 ?_
    refine G_bipush C dX11_clause_22 (v := 6) (by decide +kernel) ?_
    refine G_icmp_eq C dX11_clause_24 (tgt := 80) (by decide) (fun c4 => ?_) (fun c4 => ?_)
    · exact G_sub (w_m_X11_clause_80 C q hA N q1.1 v2 q1.2) [2, 1, 0] rfl
    · exact G_sub (w_m_X11_clause_27 C q hA N q1.1 v2 q1.2) [2, 1, 0] rfl
  · exact G_sub (w_m_X11_clause_27 C q hA N q1.1 v2 q1.2) [2, 1, 0] rfl
theorem k_m_X11_clause (l : Launch) (E : g_E) (n : Nat) (T : Nat → g_Sh) (hA : g_ag L_m_X11_clause n T) (N : Nat) (σ : g_St) (a : g_St) (h : m_X11_clause N σ = some a) : Met l yX11_clause wsX11_clause rm_m_X11_clause (g_Pc E n T [.ref (E.2.1 + 77)] σ) (g_Qv E n T a) 0 0 (g_A E) :=
  g_metV (by decide +kernel) rfl rfl (Nat.le_of_ble_eq_true rfl) (fun M Qf C q => by rw [← h]; exact w_m_X11_clause_0 C q hA N σ)
def L_m_X11_town : List Nat := [77, 78, 79, 80, 81, 92]
abbrev rm_m_X11_town : Room := { frames := 4, cells := 0, slots := 0, locals := 93 }
theorem f_X11_town_13 : g_Fld wsX11_town RX11 13 11 1 := ⟨RX11, TX11, 27, rfl, by decide +kernel, by decide, by decide +kernel⟩
theorem f_X11_town_79 : g_Fld wsX11_town RX11 79 11 5 := ⟨RX11, TX11, 27, rfl, by decide +kernel, by decide, by decide +kernel⟩
theorem p_X11_town_55 : g_FldP wsX11_town RX11 55 11 6 .int := ⟨RX11, TX11, 27, tyX11, rfl, by decide +kernel, by decide, by decide +kernel, tyX11_ok, nmX11, rfl, by decide +kernel⟩
theorem p_X11_town_72 : g_FldP wsX11_town RX11 72 11 3 .int := ⟨RX11, TX11, 27, tyX11, rfl, by decide +kernel, by decide, by decide +kernel, tyX11_ok, nmX11, rfl, by decide +kernel⟩
theorem p_X11_town_76 : g_FldP wsX11_town RX11 76 11 4 .int := ⟨RX11, TX11, 27, tyX11, rfl, by decide +kernel, by decide, by decide +kernel, tyX11_ok, nmX11, rfl, by decide +kernel⟩
theorem p_X11_town_79 : g_FldP wsX11_town RX11 79 11 5 .int := ⟨RX11, TX11, 27, tyX11, rfl, by decide +kernel, by decide, by decide +kernel, tyX11_ok, nmX11, rfl, by decide +kernel⟩
set_option maxHeartbeats 4000000 in
set_option maxRecDepth 100000 in
theorem w_m_X11_town_40 {X : g_X (Int32 × g_St)} (C : g_C X cX11_town RX11 wsX11_town rm_m_X11_town 1) (q : g_qI X) (hA : g_ag L_m_X11_town (g_n X) (g_T X)) (N : Nat) (σ : g_St) : G X 40 [(0, .ref (g_b X + 77))] [] σ (m_X11_town_40 N σ) := by
  have t77 := g_ag_at hA (c := 77) rfl tc77
  have t79 := g_ag_at hA (c := 79) rfl tc79
  unfold m_X11_town_40
  refine G_aload_n C dX11_town_40 rfl 0 rfl ?_
  refine G_iconst C dX11_town_41 (v := 0) (by decide +kernel) ?_
  refine G_putI C p_X11_town_72 t77 rfl rfl rfl dX11_town_42 ?_
  refine G_lts (fun σ1 => ?_)
  refine G_aload_n C dX11_town_45 rfl 0 rfl ?_
  refine G_getI C f_X11_town_79 t77 rfl dX11_town_46 ?_
  refine G_if_eq C dX11_town_49 (tgt := 60) (by decide) (fun c2 => ?_) (fun c2 => ?_)
  · refine G_aload_n C dX11_town_60 rfl 0 rfl ?_
    refine G_callV (rest := []) (fun a ha => g_runV C (nargs := 0) (As := []) (rest := []) gX11_town_X11_starts rfl (by decide +kernel) rfl t77 rfl rfl rfl rfl dX11_town_61 (k_m_X11_starts X.1.2.1 X.2.1 (g_n X) (g_T X) (g_ag_sub hA (by decide +kernel)) N σ1 a ha)) (fun σ3 => ?_)
    refine G_aload_n C dX11_town_64 rfl 0 rfl ?_
    refine G_getR C f_X11_town_13 t77 rfl dX11_town_65 ?_
    refine G_iconst C dX11_town_68 (v := 0) (by decide +kernel) ?_
    refine G_aldk C t79 (by decide +kernel) (k := 0) rfl dX11_town_69 ?_
    exact G_iret C q dX11_town_70
  · refine G_bipush C dX11_town_52 (v := -10) (by decide +kernel) ?_
    refine G_aload_n C dX11_town_54 rfl 0 rfl ?_
    refine G_getI C f_X11_town_79 t77 rfl dX11_town_55 ?_
    refine G_isub C dX11_town_58 ?_
    exact G_iret C q dX11_town_59
set_option maxHeartbeats 4000000 in
set_option maxRecDepth 100000 in
theorem w_m_X11_town_19 {X : g_X (Int32 × g_St)} (C : g_C X cX11_town RX11 wsX11_town rm_m_X11_town 1) (q : g_qI X) (hA : g_ag L_m_X11_town (g_n X) (g_T X)) (N : Nat) : ∀ (fu : Nat) (σ : g_St), G X 19 [(0, .ref (g_b X + 77))] [] σ (m_X11_town_19 N fu σ) := by
  have t77 := g_ag_at hA (c := 77) rfl tc77
  intro fu
  induction fu with
  | zero => intro σ; exact G_none
  | succ fu ih =>
    intro σ
    unfold m_X11_town_19
    refine G_aload_n C dX11_town_19 rfl 0 rfl ?_
    refine G_getI C f_X11_town_79 t77 rfl dX11_town_20 ?_
    refine G_if_ne C dX11_town_23 (tgt := 40) (by decide) (fun c1 => ?_) (fun c1 => ?_)
    · refine G_aload_n C dX11_town_26 rfl 0 rfl ?_
      refine G_callI (rest := []) (fun a ha => g_runV C (nargs := 0) (As := []) (rest := []) gX11_town_X11_here rfl (by decide +kernel) rfl t77 rfl rfl rfl rfl dX11_town_27 (k_m_X11_here X.1.2.1 X.2.1 (g_n X) (g_T X) (g_ag_sub hA (by decide +kernel)) N σ a ha)) (fun q2 => ?_)
      refine G_if_lt C dX11_town_30 (tgt := 40) (by decide) (fun c3 => ?_) (fun c3 => ?_)
      · exact w_m_X11_town_40 C q hA N q2.2
      · refine G_aload_n C dX11_town_33 rfl 0 rfl ?_
        refine G_callV (rest := []) (fun a ha => g_runV C (nargs := 0) (As := []) (rest := []) gX11_town_X11_clause rfl (by decide +kernel) rfl t77 rfl rfl rfl rfl dX11_town_34 (k_m_X11_clause X.1.2.1 X.2.1 (g_n X) (g_T X) (g_ag_sub hA (by decide +kernel)) N q2.2 a ha)) (fun σ4 => ?_)
        refine G_goto C dX11_town_37 (tgt := 19) (by decide) ?_
        exact ih σ4
    · exact w_m_X11_town_40 C q hA N σ
set_option maxHeartbeats 4000000 in
set_option maxRecDepth 100000 in
theorem w_m_X11_town_0 {X : g_X (Int32 × g_St)} (C : g_C X cX11_town RX11 wsX11_town rm_m_X11_town 1) (q : g_qI X) (hA : g_ag L_m_X11_town (g_n X) (g_T X)) (N : Nat) (σ : g_St) : G X 0 [(0, .ref (g_b X + 77))] [] σ (m_X11_town N σ) := by
  have t77 := g_ag_at hA (c := 77) rfl tc77
  unfold m_X11_town
  refine G_aload_n C dX11_town_0 rfl 0 rfl ?_
  refine G_iconst C dX11_town_1 (v := 0) (by decide +kernel) ?_
  refine G_putI C p_X11_town_76 t77 rfl rfl rfl dX11_town_2 ?_
  refine G_lts (fun σ1 => ?_)
  refine G_aload_n C dX11_town_5 rfl 0 rfl ?_
  refine G_iconst C dX11_town_6 (v := 0) (by decide +kernel) ?_
  refine G_putI C p_X11_town_79 t77 rfl rfl rfl dX11_town_7 ?_
  refine G_lts (fun σ2 => ?_)
  refine G_aload_n C dX11_town_10 rfl 0 rfl ?_
  refine G_iconst C dX11_town_11 (v := -1) (by decide +kernel) ?_
  refine G_putI C p_X11_town_55 t77 rfl rfl rfl dX11_town_12 ?_
  refine G_lts (fun σ3 => ?_)
  refine G_aload_n C dX11_town_15 rfl 0 rfl ?_
  refine G_callV (rest := []) (fun a ha => g_runV C (nargs := 0) (As := []) (rest := []) gX11_town_X11_plain rfl (by decide +kernel) rfl t77 rfl rfl rfl rfl dX11_town_16 (k_m_X11_plain X.1.2.1 X.2.1 (g_n X) (g_T X) (g_ag_sub hA (by decide +kernel)) N σ3 a ha)) (fun σ4 => ?_)
  exact w_m_X11_town_19 C q hA N N σ4
theorem k_m_X11_town (l : Launch) (E : g_E) (n : Nat) (T : Nat → g_Sh) (hA : g_ag L_m_X11_town n T) (N : Nat) (σ : g_St) (a : Int32 × g_St) (h : m_X11_town N σ = some a) : Met l yX11_town wsX11_town rm_m_X11_town (g_Pc E n T [.ref (E.2.1 + 77)] σ) (g_Qi E n T a) 0 0 (g_A E) :=
  g_metI (by decide +kernel) rfl rfl (Nat.le_of_ble_eq_true rfl) (fun M Qf C q => by rw [← h]; exact w_m_X11_town_0 C q hA N σ)
def L_m_X11_fault : List Nat := [77]
abbrev rm_m_X11_fault : Room := { frames := 0, cells := 0, slots := 0, locals := 0 }
theorem f_X11_fault_55 : g_Fld wsX11_fault RX11 55 11 6 := ⟨RX11, TX11, 27, rfl, by decide +kernel, by decide, by decide +kernel⟩
set_option maxHeartbeats 4000000 in
set_option maxRecDepth 100000 in
theorem w_m_X11_fault_0 {X : g_X (Int32 × g_St)} (C : g_C X cX11_fault RX11 wsX11_fault rm_m_X11_fault 1) (q : g_qI X) (hA : g_ag L_m_X11_fault (g_n X) (g_T X)) (σ : g_St) : G X 0 [(0, .ref (g_b X + 77))] [] σ (m_X11_fault σ) := by
  have t77 := g_ag_at hA (c := 77) rfl tc77
  unfold m_X11_fault
  refine G_aload_n C dX11_fault_0 rfl 0 rfl ?_
  refine G_getI C f_X11_fault_55 t77 rfl dX11_fault_1 ?_
  exact G_iret C q dX11_fault_4
theorem k_m_X11_fault (l : Launch) (E : g_E) (n : Nat) (T : Nat → g_Sh) (hA : g_ag L_m_X11_fault n T) (σ : g_St) (a : Int32 × g_St) (h : m_X11_fault σ = some a) : Met l yX11_fault wsX11_fault rm_m_X11_fault (g_Pc E n T [.ref (E.2.1 + 77)] σ) (g_Qi E n T a) 0 0 (g_A E) :=
  g_metI (by decide +kernel) rfl rfl (Nat.le_of_ble_eq_true rfl) (fun M Qf C q => by rw [← h]; exact w_m_X11_fault_0 C q hA σ)
def L_m_X11_isPerson : List Nat := [77, 79]
abbrev rm_m_X11_isPerson : Room := { frames := 1, cells := 0, slots := 0, locals := 25 }
theorem f_X11_isPerson_13 : g_Fld wsX11_isPerson RX11 13 11 1 := ⟨RX11, TX11, 27, rfl, by decide +kernel, by decide, by decide +kernel⟩
set_option maxHeartbeats 4000000 in
set_option maxRecDepth 100000 in
theorem w_m_X11_isPerson_0 {X : g_X (Int32 × g_St)} (C : g_C X cX11_isPerson RX11 wsX11_isPerson rm_m_X11_isPerson 2) (q : g_qZ X) (hA : g_ag L_m_X11_isPerson (g_n X) (g_T X)) (x1 : Int32) (σ : g_St) : G X 0 [(0, .ref (g_b X + 77)), (1, .int x1)] [] σ (m_X11_isPerson x1 σ) := by
  have t77 := g_ag_at hA (c := 77) rfl tc77
  have t79 := g_ag_at hA (c := 79) rfl tc79
  unfold m_X11_isPerson
  refine G_iload_n C dX11_isPerson_0 rfl 1 rfl ?_
  refine G_i2l C dX11_isPerson_1 ?_
  refine G_lconst C dX11_isPerson_2 (v := 0) (by decide +kernel) ?_
  refine G_aload_n C dX11_isPerson_3 rfl 0 rfl ?_
  refine G_getR C f_X11_isPerson_13 t77 rfl dX11_isPerson_4 ?_
  refine G_iconst C dX11_isPerson_7 (v := 0) (by decide +kernel) ?_
  refine G_aldk C t79 (by decide +kernel) (k := 0) rfl dX11_isPerson_8 ?_
  refine G_iconst C dX11_isPerson_9 (v := 1) (by decide +kernel) ?_
  refine G_isub C dX11_isPerson_10 ?_
  refine G_i2l C dX11_isPerson_11 ?_
  refine G_callI (rest := []) (fun a ha => g_runS C (nargs := 3) (As := [.long (x1).toInt64, .long (0 : Int64), .long (((σ.1 79 0) - (1 : Int32))).toInt64]) (rest := []) gX11_isPerson_X11_in rfl (by decide +kernel) rfl rfl rfl dX11_isPerson_12 (k_m_X11_in X.1.2.1 X.2.1 (g_n X) (g_T X) (g_ag_sub hA (by decide +kernel)) (x1).toInt64 (0 : Int64) (((σ.1 79 0) - (1 : Int32))).toInt64 σ a ha)) (fun q1 => ?_)
  refine G_chk (fun h2 => ?_)
  exact G_zret C q h2 dX11_isPerson_15
theorem k_m_X11_isPerson (l : Launch) (E : g_E) (n : Nat) (T : Nat → g_Sh) (hA : g_ag L_m_X11_isPerson n T) (x1 : Int32) (σ : g_St) (a : Int32 × g_St) (h : m_X11_isPerson x1 σ = some a) : Met l yX11_isPerson wsX11_isPerson rm_m_X11_isPerson (g_Pc E n T [.ref (E.2.1 + 77), .int x1] σ) (g_Qi E n T a) 0 0 (g_A E) :=
  g_metZ (by decide +kernel) rfl rfl (Nat.le_of_ble_eq_true rfl) (fun M Qf C q => by rw [← h]; exact w_m_X11_isPerson_0 C q hA x1 σ)
def L_m_X11_isTicket : List Nat := [77, 79]
abbrev rm_m_X11_isTicket : Room := { frames := 1, cells := 0, slots := 0, locals := 25 }
theorem f_X11_isTicket_13 : g_Fld wsX11_isTicket RX11 13 11 1 := ⟨RX11, TX11, 27, rfl, by decide +kernel, by decide, by decide +kernel⟩
set_option maxHeartbeats 4000000 in
set_option maxRecDepth 100000 in
theorem w_m_X11_isTicket_0 {X : g_X (Int32 × g_St)} (C : g_C X cX11_isTicket RX11 wsX11_isTicket rm_m_X11_isTicket 2) (q : g_qZ X) (hA : g_ag L_m_X11_isTicket (g_n X) (g_T X)) (x1 : Int32) (σ : g_St) : G X 0 [(0, .ref (g_b X + 77)), (1, .int x1)] [] σ (m_X11_isTicket x1 σ) := by
  have t77 := g_ag_at hA (c := 77) rfl tc77
  have t79 := g_ag_at hA (c := 79) rfl tc79
  unfold m_X11_isTicket
  refine G_iload_n C dX11_isTicket_0 rfl 1 rfl ?_
  refine G_i2l C dX11_isTicket_1 ?_
  refine G_lconst C dX11_isTicket_2 (v := 0) (by decide +kernel) ?_
  refine G_aload_n C dX11_isTicket_3 rfl 0 rfl ?_
  refine G_getR C f_X11_isTicket_13 t77 rfl dX11_isTicket_4 ?_
  refine G_iconst C dX11_isTicket_7 (v := 1) (by decide +kernel) ?_
  refine G_aldk C t79 (by decide +kernel) (k := 1) rfl dX11_isTicket_8 ?_
  refine G_iconst C dX11_isTicket_9 (v := 1) (by decide +kernel) ?_
  refine G_isub C dX11_isTicket_10 ?_
  refine G_i2l C dX11_isTicket_11 ?_
  refine G_callI (rest := []) (fun a ha => g_runS C (nargs := 3) (As := [.long (x1).toInt64, .long (0 : Int64), .long (((σ.1 79 1) - (1 : Int32))).toInt64]) (rest := []) gX11_isTicket_X11_in rfl (by decide +kernel) rfl rfl rfl dX11_isTicket_12 (k_m_X11_in X.1.2.1 X.2.1 (g_n X) (g_T X) (g_ag_sub hA (by decide +kernel)) (x1).toInt64 (0 : Int64) (((σ.1 79 1) - (1 : Int32))).toInt64 σ a ha)) (fun q1 => ?_)
  refine G_chk (fun h2 => ?_)
  exact G_zret C q h2 dX11_isTicket_15
theorem k_m_X11_isTicket (l : Launch) (E : g_E) (n : Nat) (T : Nat → g_Sh) (hA : g_ag L_m_X11_isTicket n T) (x1 : Int32) (σ : g_St) (a : Int32 × g_St) (h : m_X11_isTicket x1 σ = some a) : Met l yX11_isTicket wsX11_isTicket rm_m_X11_isTicket (g_Pc E n T [.ref (E.2.1 + 77), .int x1] σ) (g_Qi E n T a) 0 0 (g_A E) :=
  g_metZ (by decide +kernel) rfl rfl (Nat.le_of_ble_eq_true rfl) (fun M Qf C q => by rw [← h]; exact w_m_X11_isTicket_0 C q hA x1 σ)
def L_m_X11_weight : List Nat := [77, 79]
abbrev rm_m_X11_weight : Room := { frames := 0, cells := 0, slots := 0, locals := 0 }
theorem f_X11_weight_13 : g_Fld wsX11_weight RX11 13 11 1 := ⟨RX11, TX11, 27, rfl, by decide +kernel, by decide, by decide +kernel⟩
set_option maxHeartbeats 4000000 in
set_option maxRecDepth 100000 in
theorem w_m_X11_weight_0 {X : g_X (Int32 × g_St)} (C : g_C X cX11_weight RX11 wsX11_weight rm_m_X11_weight 2) (q : g_qI X) (hA : g_ag L_m_X11_weight (g_n X) (g_T X)) (x1 : Int32) (σ : g_St) : G X 0 [(0, .ref (g_b X + 77)), (1, .int x1)] [] σ (m_X11_weight x1 σ) := by
  have t77 := g_ag_at hA (c := 77) rfl tc77
  have t79 := g_ag_at hA (c := 79) rfl tc79
  unfold m_X11_weight
  refine G_aload_n C dX11_weight_0 rfl 0 rfl ?_
  refine G_getR C f_X11_weight_13 t77 rfl dX11_weight_1 ?_
  refine G_bipush C dX11_weight_4 (v := 21) (by decide +kernel) ?_
  refine G_iconst C dX11_weight_6 (v := 3) (by decide +kernel) ?_
  refine G_iload_n C dX11_weight_7 rfl 1 rfl ?_
  refine G_imul C dX11_weight_8 ?_
  refine G_iadd C dX11_weight_9 ?_
  refine G_iconst C dX11_weight_10 (v := 1) (by decide +kernel) ?_
  refine G_iadd C dX11_weight_11 ?_
  refine G_chk (fun h1 => ?_)
  refine G_ald C t79 h1 dX11_weight_12 ?_
  exact G_iret C q dX11_weight_13
theorem k_m_X11_weight (l : Launch) (E : g_E) (n : Nat) (T : Nat → g_Sh) (hA : g_ag L_m_X11_weight n T) (x1 : Int32) (σ : g_St) (a : Int32 × g_St) (h : m_X11_weight x1 σ = some a) : Met l yX11_weight wsX11_weight rm_m_X11_weight (g_Pc E n T [.ref (E.2.1 + 77), .int x1] σ) (g_Qi E n T a) 0 0 (g_A E) :=
  g_metI (by decide +kernel) rfl rfl (Nat.le_of_ble_eq_true rfl) (fun M Qf C q => by rw [← h]; exact w_m_X11_weight_0 C q hA x1 σ)
def L_m_X11_weightOf : List Nat := [77, 79]
abbrev rm_m_X11_weightOf : Room := { frames := 1, cells := 0, slots := 0, locals := 21 }
theorem f_X11_weightOf_13 : g_Fld wsX11_weightOf RX11 13 11 1 := ⟨RX11, TX11, 27, rfl, by decide +kernel, by decide, by decide +kernel⟩
set_option maxHeartbeats 4000000 in
set_option maxRecDepth 100000 in
theorem w_m_X11_weightOf_33 {X : g_X (Int32 × g_St)} (C : g_C X cX11_weightOf RX11 wsX11_weightOf rm_m_X11_weightOf 4) (q : g_qI X) (hA : g_ag L_m_X11_weightOf (g_n X) (g_T X)) (k4 : Int32 → Int32 → Int32 → g_St → Option (Int32 × g_St)) (hk4 : ∀ (x1 : Int32) (x2 : Int32) (x3 : Int32) (σ : g_St), G X 4 [(0, .ref (g_b X + 77)), (1, .int x1), (2, .int x2), (3, .int x3)] [] σ (k4 x1 x2 x3 σ)) (N : Nat) (x1 : Int32) (x3 : Int32) (s0 : Int32) (s1 : Int32) (σ : g_St) : G X 33 [(0, .ref (g_b X + 77)), (1, .int x1), (3, .int x3)] [.int s1, .int s0] σ (m_X11_weightOf_33 k4 N x1 x3 s0 s1 σ) := by
  unfold m_X11_weightOf_33
  refine G_iadd C dX11_weightOf_33 ?_
  refine G_lti (fun v1 => ?_)
  refine G_istore_n C dX11_weightOf_34 rfl rfl (lv' := [(2, .int v1), (0, .ref (g_b X + 77)), (1, .int x1), (3, .int x3)]) rfl ?_
  refine G_iinc C dX11_weightOf_35 3 rfl (v := (x3 + (1 : Int32))) (by rfl) rfl (lv' := [(3, .int (x3 + (1 : Int32))), (2, .int v1), (0, .ref (g_b X + 77)), (1, .int x1)]) rfl ?_
  refine G_ltv (fun v => [(3, .int v), (2, .int v1), (0, .ref (g_b X + 77)), (1, .int x1)]) (fun v2 => ?_)
  refine G_goto C dX11_weightOf_38 (tgt := 4) (by decide) ?_
  exact G_sub (hk4 x1 v1 v2 σ) [2, 3, 1, 0] rfl
set_option maxHeartbeats 4000000 in
set_option maxRecDepth 100000 in
theorem w_m_X11_weightOf_4 {X : g_X (Int32 × g_St)} (C : g_C X cX11_weightOf RX11 wsX11_weightOf rm_m_X11_weightOf 4) (q : g_qI X) (hA : g_ag L_m_X11_weightOf (g_n X) (g_T X)) (N : Nat) : ∀ (fu : Nat) (x1 : Int32) (x2 : Int32) (x3 : Int32) (σ : g_St), G X 4 [(0, .ref (g_b X + 77)), (1, .int x1), (2, .int x2), (3, .int x3)] [] σ (m_X11_weightOf_4 N fu x1 x2 x3 σ) := by
  have t77 := g_ag_at hA (c := 77) rfl tc77
  have t79 := g_ag_at hA (c := 79) rfl tc79
  intro fu
  induction fu with
  | zero => intro x1 x2 x3 σ; exact G_none
  | succ fu ih =>
    intro x1 x2 x3 σ
    unfold m_X11_weightOf_4
    refine G_iload_n C dX11_weightOf_4 rfl 3 rfl ?_
    refine G_aload_n C dX11_weightOf_5 rfl 0 rfl ?_
    refine G_getR C f_X11_weightOf_13 t77 rfl dX11_weightOf_6 ?_
    refine G_iconst C dX11_weightOf_9 (v := 1) (by decide +kernel) ?_
    refine G_aldk C t79 (by decide +kernel) (k := 1) rfl dX11_weightOf_10 ?_
    refine G_icmp_ge C dX11_weightOf_11 (tgt := 41) (by decide) (fun c1 => ?_) (fun c1 => ?_)
    · refine G_iload_n C dX11_weightOf_41 rfl 2 rfl ?_
      exact G_iret C q dX11_weightOf_42
    · refine G_iload_n C dX11_weightOf_14 rfl 2 rfl ?_
      refine G_iload_n C dX11_weightOf_15 rfl 1 rfl ?_
      refine G_iload_n C dX11_weightOf_16 rfl 3 rfl ?_
      refine G_ishr C dX11_weightOf_17 ?_
      refine G_iconst C dX11_weightOf_18 (v := 1) (by decide +kernel) ?_
      refine G_iand C dX11_weightOf_19 ?_
      refine G_iconst C dX11_weightOf_20 (v := 1) (by decide +kernel) ?_
      refine G_icmp_ne C dX11_weightOf_21 (tgt := 32) (by decide) (fun c2 => ?_) (fun c2 => ?_)
      · refine G_aload_n C dX11_weightOf_24 rfl 0 rfl ?_
        refine G_iload_n C dX11_weightOf_25 rfl 3 rfl ?_
        refine G_callI (rest := [.int x2]) (fun a ha => g_runV C (nargs := 1) (As := [.int x3]) (rest := [.int x2]) gX11_weightOf_X11_weight rfl (by decide +kernel) rfl t77 rfl rfl rfl rfl dX11_weightOf_26 (k_m_X11_weight X.1.2.1 X.2.1 (g_n X) (g_T X) (g_ag_sub hA (by decide +kernel)) x3 σ a ha)) (fun q3 => ?_)
        refine G_goto C dX11_weightOf_29 (tgt := 33) (by decide) ?_
        exact G_sub (w_m_X11_weightOf_33 C q hA (m_X11_weightOf_4 N fu) ih N x1 x3 x2 q3.1 q3.2) [0, 1, 3] rfl
      · refine G_iconst C dX11_weightOf_32 (v := 0) (by decide +kernel) ?_
        exact G_sub (w_m_X11_weightOf_33 C q hA (m_X11_weightOf_4 N fu) ih N x1 x3 x2 (0 : Int32) σ) [0, 1, 3] rfl
set_option maxHeartbeats 4000000 in
set_option maxRecDepth 100000 in
theorem w_m_X11_weightOf_0 {X : g_X (Int32 × g_St)} (C : g_C X cX11_weightOf RX11 wsX11_weightOf rm_m_X11_weightOf 4) (q : g_qI X) (hA : g_ag L_m_X11_weightOf (g_n X) (g_T X)) (N : Nat) (x1 : Int32) (σ : g_St) : G X 0 [(0, .ref (g_b X + 77)), (1, .int x1)] [] σ (m_X11_weightOf N x1 σ) := by
  unfold m_X11_weightOf
  refine G_iconst C dX11_weightOf_0 (v := 0) (by decide +kernel) ?_
  refine G_istore_n C dX11_weightOf_1 rfl rfl (lv' := [(2, .int (0 : Int32)), (0, .ref (g_b X + 77)), (1, .int x1)]) rfl ?_
  refine G_iconst C dX11_weightOf_2 (v := 0) (by decide +kernel) ?_
  refine G_istore_n C dX11_weightOf_3 rfl rfl (lv' := [(3, .int (0 : Int32)), (2, .int (0 : Int32)), (0, .ref (g_b X + 77)), (1, .int x1)]) rfl ?_
  exact G_sub (w_m_X11_weightOf_4 C q hA N N x1 (0 : Int32) (0 : Int32) σ) [2, 3, 1, 0] rfl
theorem k_m_X11_weightOf (l : Launch) (E : g_E) (n : Nat) (T : Nat → g_Sh) (hA : g_ag L_m_X11_weightOf n T) (N : Nat) (x1 : Int32) (σ : g_St) (a : Int32 × g_St) (h : m_X11_weightOf N x1 σ = some a) : Met l yX11_weightOf wsX11_weightOf rm_m_X11_weightOf (g_Pc E n T [.ref (E.2.1 + 77), .int x1] σ) (g_Qi E n T a) 0 0 (g_A E) :=
  g_metI (by decide +kernel) rfl rfl (Nat.le_of_ble_eq_true rfl) (fun M Qf C q => by rw [← h]; exact w_m_X11_weightOf_0 C q hA N x1 σ)
def L_m_X11_who : List Nat := [77, 81]
abbrev rm_m_X11_who : Room := { frames := 0, cells := 0, slots := 0, locals := 0 }
theorem f_X11_who_19 : g_Fld wsX11_who RX11 19 11 7 := ⟨RX11, TX11, 27, rfl, by decide +kernel, by decide, by decide +kernel⟩
set_option maxHeartbeats 4000000 in
set_option maxRecDepth 100000 in
theorem w_m_X11_who_0 {X : g_X (Int32 × g_St)} (C : g_C X cX11_who RX11 wsX11_who rm_m_X11_who 3) (q : g_qI X) (hA : g_ag L_m_X11_who (g_n X) (g_T X)) (x1 : Int32) (σ : g_St) : G X 0 [(0, .ref (g_b X + 77)), (1, .int x1)] [] σ (m_X11_who x1 σ) := by
  have t77 := g_ag_at hA (c := 77) rfl tc77
  have t81 := g_ag_at hA (c := 81) rfl tc81
  unfold m_X11_who
  refine G_aload_n C dX11_who_0 rfl 0 rfl ?_
  refine G_getR C f_X11_who_19 t77 rfl dX11_who_1 ?_
  refine G_bipush C dX11_who_4 (v := 15) (by decide +kernel) ?_
  refine G_iconst C dX11_who_6 (v := 3) (by decide +kernel) ?_
  refine G_iload_n C dX11_who_7 rfl 1 rfl ?_
  refine G_imul C dX11_who_8 ?_
  refine G_iadd C dX11_who_9 ?_
  refine G_iconst C dX11_who_10 (v := 1) (by decide +kernel) ?_
  refine G_iadd C dX11_who_11 ?_
  refine G_chk (fun h1 => ?_)
  refine G_ald C t81 h1 dX11_who_12 ?_
  refine G_lti (fun v2 => ?_)
  refine G_istore_n C dX11_who_13 rfl rfl (lv' := [(2, .int v2), (0, .ref (g_b X + 77)), (1, .int x1)]) rfl ?_
  refine G_iload_n C dX11_who_14 rfl 0 rfl ?_
  refine G_iconst C dX11_who_15 (v := -1) (by decide +kernel) ?_
  refine G_icmp_ne C dX11_who_16 (tgt := 33) (by decide) (fun c3 => ?_) (fun c3 => ?_)
  · refine G_aload_n C dX11_who_19 rfl 1 rfl ?_
    refine G_getR C f_X11_who_19 t77 rfl dX11_who_20 ?_
    refine G_bipush C dX11_who_23 (v := 15) (by decide +kernel) ?_
    refine G_iconst C dX11_who_25 (v := 3) (by decide +kernel) ?_
    refine G_iload_n C dX11_who_26 rfl 2 rfl ?_
    refine G_imul C dX11_who_27 ?_
    refine G_iadd C dX11_who_28 ?_
    refine G_chk (fun h4 => ?_)
    refine G_ald C t81 h4 dX11_who_29 ?_
    refine G_goto C dX11_who_30 (tgt := 34) (by decide) ?_
    exact G_iret C q dX11_who_34
  · refine G_iload_n C dX11_who_33 rfl 0 rfl ?_
    exact G_iret C q dX11_who_34
theorem k_m_X11_who (l : Launch) (E : g_E) (n : Nat) (T : Nat → g_Sh) (hA : g_ag L_m_X11_who n T) (x1 : Int32) (σ : g_St) (a : Int32 × g_St) (h : m_X11_who x1 σ = some a) : Met l yX11_who wsX11_who rm_m_X11_who (g_Pc E n T [.ref (E.2.1 + 77), .int x1] σ) (g_Qi E n T a) 0 0 (g_A E) :=
  g_metI (by decide +kernel) rfl rfl (Nat.le_of_ble_eq_true rfl) (fun M Qf C q => by rw [← h]; exact w_m_X11_who_0 C q hA x1 σ)
def L_m_X11_own : List Nat := [77, 79, 81]
abbrev rm_m_X11_own : Room := { frames := 1, cells := 0, slots := 0, locals := 22 }
theorem f_X11_own_13 : g_Fld wsX11_own RX11 13 11 1 := ⟨RX11, TX11, 27, rfl, by decide +kernel, by decide, by decide +kernel⟩
set_option maxHeartbeats 4000000 in
set_option maxRecDepth 100000 in
theorem w_m_X11_own_31 {X : g_X (Int32 × g_St)} (C : g_C X cX11_own RX11 wsX11_own rm_m_X11_own 4) (q : g_qI X) (hA : g_ag L_m_X11_own (g_n X) (g_T X)) (k4 : Int32 → Int32 → Int32 → g_St → Option (Int32 × g_St)) (hk4 : ∀ (x1 : Int32) (x2 : Int32) (x3 : Int32) (σ : g_St), G X 4 [(0, .ref (g_b X + 77)), (1, .int x1), (2, .int x2), (3, .int x3)] [] σ (k4 x1 x2 x3 σ)) (N : Nat) (x1 : Int32) (x3 : Int32) (s0 : Int32) (s1 : Int32) (σ : g_St) : G X 31 [(0, .ref (g_b X + 77)), (1, .int x1), (3, .int x3)] [.int s1, .int s0] σ (m_X11_own_31 k4 N x1 x3 s0 s1 σ) := by
  unfold m_X11_own_31
  refine G_ior C dX11_own_31 ?_
  refine G_lti (fun v1 => ?_)
  refine G_istore_n C dX11_own_32 rfl rfl (lv' := [(2, .int v1), (0, .ref (g_b X + 77)), (1, .int x1), (3, .int x3)]) rfl ?_
  refine G_iinc C dX11_own_33 3 rfl (v := (x3 + (1 : Int32))) (by rfl) rfl (lv' := [(3, .int (x3 + (1 : Int32))), (2, .int v1), (0, .ref (g_b X + 77)), (1, .int x1)]) rfl ?_
  refine G_ltv (fun v => [(3, .int v), (2, .int v1), (0, .ref (g_b X + 77)), (1, .int x1)]) (fun v2 => ?_)
  refine G_goto C dX11_own_36 (tgt := 4) (by decide) ?_
  exact G_sub (hk4 x1 v1 v2 σ) [2, 3, 1, 0] rfl
set_option maxHeartbeats 4000000 in
set_option maxRecDepth 100000 in
theorem w_m_X11_own_4 {X : g_X (Int32 × g_St)} (C : g_C X cX11_own RX11 wsX11_own rm_m_X11_own 4) (q : g_qI X) (hA : g_ag L_m_X11_own (g_n X) (g_T X)) (N : Nat) : ∀ (fu : Nat) (x1 : Int32) (x2 : Int32) (x3 : Int32) (σ : g_St), G X 4 [(0, .ref (g_b X + 77)), (1, .int x1), (2, .int x2), (3, .int x3)] [] σ (m_X11_own_4 N fu x1 x2 x3 σ) := by
  have t77 := g_ag_at hA (c := 77) rfl tc77
  have t79 := g_ag_at hA (c := 79) rfl tc79
  intro fu
  induction fu with
  | zero => intro x1 x2 x3 σ; exact G_none
  | succ fu ih =>
    intro x1 x2 x3 σ
    unfold m_X11_own_4
    refine G_iload_n C dX11_own_4 rfl 3 rfl ?_
    refine G_aload_n C dX11_own_5 rfl 0 rfl ?_
    refine G_getR C f_X11_own_13 t77 rfl dX11_own_6 ?_
    refine G_iconst C dX11_own_9 (v := 1) (by decide +kernel) ?_
    refine G_aldk C t79 (by decide +kernel) (k := 1) rfl dX11_own_10 ?_
    refine G_icmp_ge C dX11_own_11 (tgt := 39) (by decide) (fun c1 => ?_) (fun c1 => ?_)
    · refine G_iload_n C dX11_own_39 rfl 2 rfl ?_
      exact G_iret C q dX11_own_40
    · refine G_iload_n C dX11_own_14 rfl 2 rfl ?_
      refine G_aload_n C dX11_own_15 rfl 0 rfl ?_
      refine G_iload_n C dX11_own_16 rfl 3 rfl ?_
      refine G_callI (rest := [.int x2]) (fun a ha => g_runV C (nargs := 1) (As := [.int x3]) (rest := [.int x2]) gX11_own_X11_who rfl (by decide +kernel) rfl t77 rfl rfl rfl rfl dX11_own_17 (k_m_X11_who X.1.2.1 X.2.1 (g_n X) (g_T X) (g_ag_sub hA (by decide +kernel)) x3 σ a ha)) (fun q2 => ?_)
      refine G_iload_n C dX11_own_20 rfl 1 rfl ?_
      refine G_icmp_ne C dX11_own_21 (tgt := 30) (by decide) (fun c3 => ?_) (fun c3 => ?_)
      · refine G_iconst C dX11_own_24 (v := 1) (by decide +kernel) ?_
        refine G_iload_n C dX11_own_25 rfl 3 rfl ?_
        refine G_ishl C dX11_own_26 ?_
        refine G_goto C dX11_own_27 (tgt := 31) (by decide) ?_
        exact G_sub (w_m_X11_own_31 C q hA (m_X11_own_4 N fu) ih N x1 x3 x2 ((1 : Int32) <<< (x3 &&& 31)) q2.2) [0, 1, 3] rfl
      · refine G_iconst C dX11_own_30 (v := 0) (by decide +kernel) ?_
        exact G_sub (w_m_X11_own_31 C q hA (m_X11_own_4 N fu) ih N x1 x3 x2 (0 : Int32) q2.2) [0, 1, 3] rfl
set_option maxHeartbeats 4000000 in
set_option maxRecDepth 100000 in
theorem w_m_X11_own_0 {X : g_X (Int32 × g_St)} (C : g_C X cX11_own RX11 wsX11_own rm_m_X11_own 4) (q : g_qI X) (hA : g_ag L_m_X11_own (g_n X) (g_T X)) (N : Nat) (x1 : Int32) (σ : g_St) : G X 0 [(0, .ref (g_b X + 77)), (1, .int x1)] [] σ (m_X11_own N x1 σ) := by
  unfold m_X11_own
  refine G_iconst C dX11_own_0 (v := 0) (by decide +kernel) ?_
  refine G_istore_n C dX11_own_1 rfl rfl (lv' := [(2, .int (0 : Int32)), (0, .ref (g_b X + 77)), (1, .int x1)]) rfl ?_
  refine G_iconst C dX11_own_2 (v := 0) (by decide +kernel) ?_
  refine G_istore_n C dX11_own_3 rfl rfl (lv' := [(3, .int (0 : Int32)), (2, .int (0 : Int32)), (0, .ref (g_b X + 77)), (1, .int x1)]) rfl ?_
  exact G_sub (w_m_X11_own_4 C q hA N N x1 (0 : Int32) (0 : Int32) σ) [2, 3, 1, 0] rfl
theorem k_m_X11_own (l : Launch) (E : g_E) (n : Nat) (T : Nat → g_Sh) (hA : g_ag L_m_X11_own n T) (N : Nat) (x1 : Int32) (σ : g_St) (a : Int32 × g_St) (h : m_X11_own N x1 σ = some a) : Met l yX11_own wsX11_own rm_m_X11_own (g_Pc E n T [.ref (E.2.1 + 77), .int x1] σ) (g_Qi E n T a) 0 0 (g_A E) :=
  g_metI (by decide +kernel) rfl rfl (Nat.le_of_ble_eq_true rfl) (fun M Qf C q => by rw [← h]; exact w_m_X11_own_0 C q hA N x1 σ)
def L_m_X11_held : List Nat := [77, 79, 81]
abbrev rm_m_X11_held : Room := { frames := 0, cells := 0, slots := 0, locals := 0 }
theorem f_X11_held_13 : g_Fld wsX11_held RX11 13 11 1 := ⟨RX11, TX11, 27, rfl, by decide +kernel, by decide, by decide +kernel⟩
theorem f_X11_held_19 : g_Fld wsX11_held RX11 19 11 7 := ⟨RX11, TX11, 27, rfl, by decide +kernel, by decide, by decide +kernel⟩
set_option maxHeartbeats 4000000 in
set_option maxRecDepth 100000 in
theorem w_m_X11_held_37 {X : g_X (Int32 × g_St)} (C : g_C X cX11_held RX11 wsX11_held rm_m_X11_held 4) (q : g_qI X) (hA : g_ag L_m_X11_held (g_n X) (g_T X)) (k4 : Int32 → Int32 → Int32 → g_St → Option (Int32 × g_St)) (hk4 : ∀ (x1 : Int32) (x2 : Int32) (x3 : Int32) (σ : g_St), G X 4 [(0, .ref (g_b X + 77)), (1, .int x1), (2, .int x2), (3, .int x3)] [] σ (k4 x1 x2 x3 σ)) (N : Nat) (x1 : Int32) (x3 : Int32) (s0 : Int32) (s1 : Int32) (σ : g_St) : G X 37 [(0, .ref (g_b X + 77)), (1, .int x1), (3, .int x3)] [.int s1, .int s0] σ (m_X11_held_37 k4 N x1 x3 s0 s1 σ) := by
  unfold m_X11_held_37
  refine G_ior C dX11_held_37 ?_
  refine G_lti (fun v1 => ?_)
  refine G_istore_n C dX11_held_38 rfl rfl (lv' := [(2, .int v1), (0, .ref (g_b X + 77)), (1, .int x1), (3, .int x3)]) rfl ?_
  refine G_iinc C dX11_held_39 3 rfl (v := (x3 + (1 : Int32))) (by rfl) rfl (lv' := [(3, .int (x3 + (1 : Int32))), (2, .int v1), (0, .ref (g_b X + 77)), (1, .int x1)]) rfl ?_
  refine G_ltv (fun v => [(3, .int v), (2, .int v1), (0, .ref (g_b X + 77)), (1, .int x1)]) (fun v2 => ?_)
  refine G_goto C dX11_held_42 (tgt := 4) (by decide) ?_
  exact G_sub (hk4 x1 v1 v2 σ) [2, 3, 1, 0] rfl
set_option maxHeartbeats 4000000 in
set_option maxRecDepth 100000 in
theorem w_m_X11_held_4 {X : g_X (Int32 × g_St)} (C : g_C X cX11_held RX11 wsX11_held rm_m_X11_held 4) (q : g_qI X) (hA : g_ag L_m_X11_held (g_n X) (g_T X)) (N : Nat) : ∀ (fu : Nat) (x1 : Int32) (x2 : Int32) (x3 : Int32) (σ : g_St), G X 4 [(0, .ref (g_b X + 77)), (1, .int x1), (2, .int x2), (3, .int x3)] [] σ (m_X11_held_4 N fu x1 x2 x3 σ) := by
  have t77 := g_ag_at hA (c := 77) rfl tc77
  have t79 := g_ag_at hA (c := 79) rfl tc79
  have t81 := g_ag_at hA (c := 81) rfl tc81
  intro fu
  induction fu with
  | zero => intro x1 x2 x3 σ; exact G_none
  | succ fu ih =>
    intro x1 x2 x3 σ
    unfold m_X11_held_4
    refine G_iload_n C dX11_held_4 rfl 3 rfl ?_
    refine G_aload_n C dX11_held_5 rfl 0 rfl ?_
    refine G_getR C f_X11_held_13 t77 rfl dX11_held_6 ?_
    refine G_iconst C dX11_held_9 (v := 1) (by decide +kernel) ?_
    refine G_aldk C t79 (by decide +kernel) (k := 1) rfl dX11_held_10 ?_
    refine G_icmp_ge C dX11_held_11 (tgt := 45) (by decide) (fun c1 => ?_) (fun c1 => ?_)
    · refine G_iload_n C dX11_held_45 rfl 2 rfl ?_
      exact G_iret C q dX11_held_46
    · refine G_iload_n C dX11_held_14 rfl 2 rfl ?_
      refine G_aload_n C dX11_held_15 rfl 0 rfl ?_
      refine G_getR C f_X11_held_19 t77 rfl dX11_held_16 ?_
      refine G_bipush C dX11_held_19 (v := 15) (by decide +kernel) ?_
      refine G_iconst C dX11_held_21 (v := 3) (by decide +kernel) ?_
      refine G_iload_n C dX11_held_22 rfl 3 rfl ?_
      refine G_imul C dX11_held_23 ?_
      refine G_iadd C dX11_held_24 ?_
      refine G_chk (fun h2 => ?_)
      refine G_ald C t81 h2 dX11_held_25 ?_
      refine G_iload_n C dX11_held_26 rfl 1 rfl ?_
      refine G_icmp_ne C dX11_held_27 (tgt := 36) (by decide) (fun c3 => ?_) (fun c3 => ?_)
      · refine G_iconst C dX11_held_30 (v := 1) (by decide +kernel) ?_
        refine G_iload_n C dX11_held_31 rfl 3 rfl ?_
        refine G_ishl C dX11_held_32 ?_
        refine G_goto C dX11_held_33 (tgt := 37) (by decide) ?_
        exact G_sub (w_m_X11_held_37 C q hA (m_X11_held_4 N fu) ih N x1 x3 x2 ((1 : Int32) <<< (x3 &&& 31)) σ) [0, 1, 3] rfl
      · refine G_iconst C dX11_held_36 (v := 0) (by decide +kernel) ?_
        exact G_sub (w_m_X11_held_37 C q hA (m_X11_held_4 N fu) ih N x1 x3 x2 (0 : Int32) σ) [0, 1, 3] rfl
set_option maxHeartbeats 4000000 in
set_option maxRecDepth 100000 in
theorem w_m_X11_held_0 {X : g_X (Int32 × g_St)} (C : g_C X cX11_held RX11 wsX11_held rm_m_X11_held 4) (q : g_qI X) (hA : g_ag L_m_X11_held (g_n X) (g_T X)) (N : Nat) (x1 : Int32) (σ : g_St) : G X 0 [(0, .ref (g_b X + 77)), (1, .int x1)] [] σ (m_X11_held N x1 σ) := by
  unfold m_X11_held
  refine G_iconst C dX11_held_0 (v := 0) (by decide +kernel) ?_
  refine G_istore_n C dX11_held_1 rfl rfl (lv' := [(2, .int (0 : Int32)), (0, .ref (g_b X + 77)), (1, .int x1)]) rfl ?_
  refine G_iconst C dX11_held_2 (v := 0) (by decide +kernel) ?_
  refine G_istore_n C dX11_held_3 rfl rfl (lv' := [(3, .int (0 : Int32)), (2, .int (0 : Int32)), (0, .ref (g_b X + 77)), (1, .int x1)]) rfl ?_
  exact G_sub (w_m_X11_held_4 C q hA N N x1 (0 : Int32) (0 : Int32) σ) [2, 3, 1, 0] rfl
theorem k_m_X11_held (l : Launch) (E : g_E) (n : Nat) (T : Nat → g_Sh) (hA : g_ag L_m_X11_held n T) (N : Nat) (x1 : Int32) (σ : g_St) (a : Int32 × g_St) (h : m_X11_held N x1 σ = some a) : Met l yX11_held wsX11_held rm_m_X11_held (g_Pc E n T [.ref (E.2.1 + 77), .int x1] σ) (g_Qi E n T a) 0 0 (g_A E) :=
  g_metI (by decide +kernel) rfl rfl (Nat.le_of_ble_eq_true rfl) (fun M Qf C q => by rw [← h]; exact w_m_X11_held_0 C q hA N x1 σ)
def L_m_X11_spread : List Nat := [77, 79, 81]
abbrev rm_m_X11_spread : Room := { frames := 0, cells := 0, slots := 0, locals := 0 }
theorem f_X11_spread_13 : g_Fld wsX11_spread RX11 13 11 1 := ⟨RX11, TX11, 27, rfl, by decide +kernel, by decide, by decide +kernel⟩
theorem f_X11_spread_19 : g_Fld wsX11_spread RX11 19 11 7 := ⟨RX11, TX11, 27, rfl, by decide +kernel, by decide, by decide +kernel⟩
set_option maxHeartbeats 4000000 in
set_option maxRecDepth 100000 in
theorem w_m_X11_spread_55 {X : g_X (Int32 × g_St)} (C : g_C X cX11_spread RX11 wsX11_spread rm_m_X11_spread 5) (q : g_qI X) (hA : g_ag L_m_X11_spread (g_n X) (g_T X)) (k8 : Int32 → Int32 → Int32 → g_St → Option (Int32 × g_St)) (hk8 : ∀ (x1 : Int32) (x2 : Int32) (x3 : Int32) (σ : g_St), G X 8 [(0, .ref (g_b X + 77)), (1, .int x1), (2, .int x2), (3, .int x3)] [] σ (k8 x1 x2 x3 σ)) (N : Nat) (x1 : Int32) (x3 : Int32) (s0 : Int32) (σ : g_St) : G X 55 [(0, .ref (g_b X + 77)), (1, .int x1), (3, .int x3)] [.int s0] σ (m_X11_spread_55 k8 N x1 x3 s0 σ) := by
  unfold m_X11_spread_55
  refine G_istore_n C dX11_spread_55 rfl rfl (lv' := [(2, .int s0), (0, .ref (g_b X + 77)), (1, .int x1), (3, .int x3)]) rfl ?_
  refine G_iinc C dX11_spread_56 3 rfl (v := (x3 + (1 : Int32))) (by rfl) rfl (lv' := [(3, .int (x3 + (1 : Int32))), (2, .int s0), (0, .ref (g_b X + 77)), (1, .int x1)]) rfl ?_
  refine G_ltv (fun v => [(3, .int v), (2, .int s0), (0, .ref (g_b X + 77)), (1, .int x1)]) (fun v1 => ?_)
  refine G_goto C dX11_spread_59 (tgt := 8) (by decide) ?_
  exact G_sub (hk8 x1 s0 v1 σ) [2, 3, 1, 0] rfl
set_option maxHeartbeats 4000000 in
set_option maxRecDepth 100000 in
theorem w_m_X11_spread_42 {X : g_X (Int32 × g_St)} (C : g_C X cX11_spread RX11 wsX11_spread rm_m_X11_spread 5) (q : g_qI X) (hA : g_ag L_m_X11_spread (g_n X) (g_T X)) (k8 : Int32 → Int32 → Int32 → g_St → Option (Int32 × g_St)) (hk8 : ∀ (x1 : Int32) (x2 : Int32) (x3 : Int32) (σ : g_St), G X 8 [(0, .ref (g_b X + 77)), (1, .int x1), (2, .int x2), (3, .int x3)] [] σ (k8 x1 x2 x3 σ)) (N : Nat) (x2 : Int32) (x3 : Int32) (x4 : Int32) (s0 : Int32) (σ : g_St) : G X 42 [(0, .ref (g_b X + 77)), (2, .int x2), (3, .int x3), (4, .int x4)] [.int s0] σ (m_X11_spread_42 k8 N x2 x3 x4 s0 σ) := by
  unfold m_X11_spread_42
  refine G_istore_n C dX11_spread_42 rfl rfl (lv' := [(1, .int s0), (0, .ref (g_b X + 77)), (2, .int x2), (3, .int x3), (4, .int x4)]) rfl ?_
  refine G_iload C dX11_spread_43 4 rfl ?_
  refine G_iload_n C dX11_spread_45 rfl 2 rfl ?_
  refine G_icmp_le C dX11_spread_46 (tgt := 54) (by decide) (fun c1 => ?_) (fun c1 => ?_)
  · refine G_iload_n C dX11_spread_54 rfl 2 rfl ?_
    exact G_sub (w_m_X11_spread_55 C q hA k8 hk8 N s0 x3 x2 σ) [1, 0, 3] rfl
  · refine G_iload C dX11_spread_49 4 rfl ?_
    refine G_goto C dX11_spread_51 (tgt := 55) (by decide) ?_
    exact G_sub (w_m_X11_spread_55 C q hA k8 hk8 N s0 x3 x4 σ) [1, 0, 3] rfl
set_option maxHeartbeats 4000000 in
set_option maxRecDepth 100000 in
theorem w_m_X11_spread_8 {X : g_X (Int32 × g_St)} (C : g_C X cX11_spread RX11 wsX11_spread rm_m_X11_spread 5) (q : g_qI X) (hA : g_ag L_m_X11_spread (g_n X) (g_T X)) (N : Nat) : ∀ (fu : Nat) (x1 : Int32) (x2 : Int32) (x3 : Int32) (σ : g_St), G X 8 [(0, .ref (g_b X + 77)), (1, .int x1), (2, .int x2), (3, .int x3)] [] σ (m_X11_spread_8 N fu x1 x2 x3 σ) := by
  have t77 := g_ag_at hA (c := 77) rfl tc77
  have t79 := g_ag_at hA (c := 79) rfl tc79
  have t81 := g_ag_at hA (c := 81) rfl tc81
  intro fu
  induction fu with
  | zero => intro x1 x2 x3 σ; exact G_none
  | succ fu ih =>
    intro x1 x2 x3 σ
    unfold m_X11_spread_8
    refine G_iload_n C dX11_spread_8 rfl 3 rfl ?_
    refine G_aload_n C dX11_spread_9 rfl 0 rfl ?_
    refine G_getR C f_X11_spread_13 t77 rfl dX11_spread_10 ?_
    refine G_iconst C dX11_spread_13 (v := 0) (by decide +kernel) ?_
    refine G_aldk C t79 (by decide +kernel) (k := 0) rfl dX11_spread_14 ?_
    refine G_icmp_ge C dX11_spread_15 (tgt := 62) (by decide) (fun c1 => ?_) (fun c1 => ?_)
    · refine G_aload_n C dX11_spread_62 rfl 0 rfl ?_
      refine G_getR C f_X11_spread_13 t77 rfl dX11_spread_63 ?_
      refine G_iconst C dX11_spread_66 (v := 0) (by decide +kernel) ?_
      refine G_aldk C t79 (by decide +kernel) (k := 0) rfl dX11_spread_67 ?_
      refine G_if_ne C dX11_spread_68 (tgt := 75) (by decide) (fun c2 => ?_) (fun c2 => ?_)
      · refine G_iconst C dX11_spread_71 (v := 0) (by decide +kernel) ?_
        refine G_goto C dX11_spread_72 (tgt := 78) (by decide) ?_
        exact G_iret C q dX11_spread_78
      · refine G_iload_n C dX11_spread_75 rfl 2 rfl ?_
        refine G_iload_n C dX11_spread_76 rfl 1 rfl ?_
        refine G_isub C dX11_spread_77 ?_
        exact G_iret C q dX11_spread_78
    · refine G_aload_n C dX11_spread_18 rfl 0 rfl ?_
      refine G_getR C f_X11_spread_19 t77 rfl dX11_spread_19 ?_
      refine G_iconst C dX11_spread_22 (v := 3) (by decide +kernel) ?_
      refine G_iconst C dX11_spread_23 (v := 2) (by decide +kernel) ?_
      refine G_iload_n C dX11_spread_24 rfl 3 rfl ?_
      refine G_imul C dX11_spread_25 ?_
      refine G_iadd C dX11_spread_26 ?_
      refine G_chk (fun h3 => ?_)
      refine G_ald C t81 h3 dX11_spread_27 ?_
      refine G_lti (fun v4 => ?_)
      refine G_istore C dX11_spread_28 rfl (lv' := [(4, .int v4), (0, .ref (g_b X + 77)), (1, .int x1), (2, .int x2), (3, .int x3)]) rfl ?_
      refine G_iload C dX11_spread_30 0 rfl ?_
      refine G_iload_n C dX11_spread_32 rfl 2 rfl ?_
      refine G_icmp_ge C dX11_spread_33 (tgt := 41) (by decide) (fun c5 => ?_) (fun c5 => ?_)
      · refine G_iload_n C dX11_spread_41 rfl 2 rfl ?_
        exact G_sub (w_m_X11_spread_42 C q hA (m_X11_spread_8 N fu) ih N x2 x3 v4 x1 σ) [1, 3, 4, 0] rfl
      · refine G_iload C dX11_spread_36 0 rfl ?_
        refine G_goto C dX11_spread_38 (tgt := 42) (by decide) ?_
        exact G_sub (w_m_X11_spread_42 C q hA (m_X11_spread_8 N fu) ih N x2 x3 v4 v4 σ) [1, 3, 4, 0] rfl
set_option maxHeartbeats 4000000 in
set_option maxRecDepth 100000 in
theorem w_m_X11_spread_0 {X : g_X (Int32 × g_St)} (C : g_C X cX11_spread RX11 wsX11_spread rm_m_X11_spread 5) (q : g_qI X) (hA : g_ag L_m_X11_spread (g_n X) (g_T X)) (N : Nat) (σ : g_St) : G X 0 [(0, .ref (g_b X + 77))] [] σ (m_X11_spread N σ) := by
  unfold m_X11_spread
  refine G_sipush C dX11_spread_0 (v := 9999) (by decide +kernel) ?_
  refine G_istore_n C dX11_spread_3 rfl rfl (lv' := [(1, .int (9999 : Int32)), (0, .ref (g_b X + 77))]) rfl ?_
  refine G_iconst C dX11_spread_4 (v := 0) (by decide +kernel) ?_
  refine G_istore_n C dX11_spread_5 rfl rfl (lv' := [(2, .int (0 : Int32)), (1, .int (9999 : Int32)), (0, .ref (g_b X + 77))]) rfl ?_
  refine G_iconst C dX11_spread_6 (v := 0) (by decide +kernel) ?_
  refine G_istore_n C dX11_spread_7 rfl rfl (lv' := [(3, .int (0 : Int32)), (2, .int (0 : Int32)), (1, .int (9999 : Int32)), (0, .ref (g_b X + 77))]) rfl ?_
  exact G_sub (w_m_X11_spread_8 C q hA N N (9999 : Int32) (0 : Int32) (0 : Int32) σ) [3, 2, 1, 0] rfl
theorem k_m_X11_spread (l : Launch) (E : g_E) (n : Nat) (T : Nat → g_Sh) (hA : g_ag L_m_X11_spread n T) (N : Nat) (σ : g_St) (a : Int32 × g_St) (h : m_X11_spread N σ = some a) : Met l yX11_spread wsX11_spread rm_m_X11_spread (g_Pc E n T [.ref (E.2.1 + 77)] σ) (g_Qi E n T a) 0 0 (g_A E) :=
  g_metI (by decide +kernel) rfl rfl (Nat.le_of_ble_eq_true rfl) (fun M Qf C q => by rw [← h]; exact w_m_X11_spread_0 C q hA N σ)
def L_m_X11_told : List Nat := [77, 79, 81]
abbrev rm_m_X11_told : Room := { frames := 2, cells := 0, slots := 0, locals := 44 }
theorem f_X11_told_110 : g_Fld wsX11_told RX11 110 11 17 := ⟨RX11, TX11, 27, rfl, by decide +kernel, by decide, by decide +kernel⟩
theorem f_X11_told_113 : g_Fld wsX11_told RX11 113 11 21 := ⟨RX11, TX11, 27, rfl, by decide +kernel, by decide, by decide +kernel⟩
theorem f_X11_told_116 : g_Fld wsX11_told RX11 116 11 19 := ⟨RX11, TX11, 27, rfl, by decide +kernel, by decide, by decide +kernel⟩
theorem f_X11_told_119 : g_Fld wsX11_told RX11 119 11 9 := ⟨RX11, TX11, 27, rfl, by decide +kernel, by decide, by decide +kernel⟩
theorem f_X11_told_13 : g_Fld wsX11_told RX11 13 11 1 := ⟨RX11, TX11, 27, rfl, by decide +kernel, by decide, by decide +kernel⟩
theorem f_X11_told_19 : g_Fld wsX11_told RX11 19 11 7 := ⟨RX11, TX11, 27, rfl, by decide +kernel, by decide, by decide +kernel⟩
theorem f_X11_told_72 : g_Fld wsX11_told RX11 72 11 3 := ⟨RX11, TX11, 27, rfl, by decide +kernel, by decide, by decide +kernel⟩
theorem c_X11_told_71 : Cond.constant RX11 71 (-1000000002) ∈ wsX11_told := by decide +kernel
set_option maxHeartbeats 4000000 in
set_option maxRecDepth 100000 in
theorem w_m_X11_told_72 {X : g_X (Int32 × g_St)} (C : g_C X cX11_told RX11 wsX11_told rm_m_X11_told 2) (q : g_qI X) (hA : g_ag L_m_X11_told (g_n X) (g_T X)) (N : Nat) (x1 : Int32) (σ : g_St) : G X 72 [(0, .ref (g_b X + 77)), (1, .int x1)] [] σ (m_X11_told_72 N x1 σ) := by
  have t77 := g_ag_at hA (c := 77) rfl tc77
  have t79 := g_ag_at hA (c := 79) rfl tc79
  unfold m_X11_told_72
  refine G_aload_n C dX11_told_72 rfl 0 rfl ?_
  refine G_getR C f_X11_told_13 t77 rfl dX11_told_73 ?_
  refine G_iload_n C dX11_told_76 rfl 1 rfl ?_
  refine G_chk (fun h1 => ?_)
  refine G_ald C t79 h1 dX11_told_77 ?_
  exact G_iret C q dX11_told_78
set_option maxHeartbeats 4000000 in
set_option maxRecDepth 100000 in
theorem w_m_X11_told_84 {X : g_X (Int32 × g_St)} (C : g_C X cX11_told RX11 wsX11_told rm_m_X11_told 2) (q : g_qI X) (hA : g_ag L_m_X11_told (g_n X) (g_T X)) (N : Nat) (x1 : Int32) (σ : g_St) : G X 84 [(0, .ref (g_b X + 77)), (1, .int x1)] [] σ (m_X11_told_84 N x1 σ) := by
  have t77 := g_ag_at hA (c := 77) rfl tc77
  have t81 := g_ag_at hA (c := 81) rfl tc81
  unfold m_X11_told_84
  refine G_aload_n C dX11_told_84 rfl 0 rfl ?_
  refine G_getR C f_X11_told_19 t77 rfl dX11_told_85 ?_
  refine G_iload_n C dX11_told_88 rfl 1 rfl ?_
  refine G_iconst C dX11_told_89 (v := 3) (by decide +kernel) ?_
  refine G_isub C dX11_told_90 ?_
  refine G_chk (fun h1 => ?_)
  refine G_ald C t81 h1 dX11_told_91 ?_
  exact G_iret C q dX11_told_92
set_option maxHeartbeats 4000000 in
set_option maxRecDepth 100000 in
theorem w_m_X11_told_93 {X : g_X (Int32 × g_St)} (C : g_C X cX11_told RX11 wsX11_told rm_m_X11_told 2) (q : g_qI X) (hA : g_ag L_m_X11_told (g_n X) (g_T X)) (N : Nat) (x1 : Int32) (σ : g_St) : G X 93 [(0, .ref (g_b X + 77)), (1, .int x1)] [] σ (m_X11_told_93 N x1 σ) := by
  have t77 := g_ag_at hA (c := 77) rfl tc77
  have t79 := g_ag_at hA (c := 79) rfl tc79
  unfold m_X11_told_93
  refine G_aload_n C dX11_told_93 rfl 0 rfl ?_
  refine G_getR C f_X11_told_13 t77 rfl dX11_told_94 ?_
  refine G_iload_n C dX11_told_97 rfl 1 rfl ?_
  refine G_iconst C dX11_told_98 (v := 3) (by decide +kernel) ?_
  refine G_isub C dX11_told_99 ?_
  refine G_chk (fun h1 => ?_)
  refine G_ald C t79 h1 dX11_told_100 ?_
  exact G_iret C q dX11_told_101
set_option maxHeartbeats 4000000 in
set_option maxRecDepth 100000 in
theorem w_m_X11_told_0 {X : g_X (Int32 × g_St)} (C : g_C X cX11_told RX11 wsX11_told rm_m_X11_told 2) (q : g_qI X) (hA : g_ag L_m_X11_told (g_n X) (g_T X)) (N : Nat) (x1 : Int32) (σ : g_St) : G X 0 [(0, .ref (g_b X + 77)), (1, .int x1)] [] σ (m_X11_told N x1 σ) := by
  have t77 := g_ag_at hA (c := 77) rfl tc77
  have t81 := g_ag_at hA (c := 81) rfl tc81
  unfold m_X11_told
  refine G_iload_n C dX11_told_0 rfl 1 rfl ?_
  refine G_ite (fun e1 => ?_) (fun e1 => ?_)
  · refine G_tsIn C dX11_told_1 e1 (off := 71) (tgt := 72) (by decide +kernel) ?_
    exact w_m_X11_told_72 C q hA N x1 σ
  · refine G_ite (fun e2 => ?_) (fun e2 => ?_)
    · refine G_tsIn C dX11_told_1 e2 (off := 71) (tgt := 72) (by decide +kernel) ?_
      exact w_m_X11_told_72 C q hA N x1 σ
    · refine G_ite (fun e3 => ?_) (fun e3 => ?_)
      · refine G_tsIn C dX11_told_1 e3 (off := 78) (tgt := 79) (by decide +kernel) ?_
        refine G_aload_n C dX11_told_79 rfl 0 rfl ?_
        refine G_getI C f_X11_told_72 t77 rfl dX11_told_80 ?_
        exact G_iret C q dX11_told_83
      · refine G_ite (fun e4 => ?_) (fun e4 => ?_)
        · refine G_tsIn C dX11_told_1 e4 (off := 83) (tgt := 84) (by decide +kernel) ?_
          exact w_m_X11_told_84 C q hA N x1 σ
        · refine G_ite (fun e5 => ?_) (fun e5 => ?_)
          · refine G_tsIn C dX11_told_1 e5 (off := 83) (tgt := 84) (by decide +kernel) ?_
            exact w_m_X11_told_84 C q hA N x1 σ
          · refine G_ite (fun e6 => ?_) (fun e6 => ?_)
            · refine G_tsIn C dX11_told_1 e6 (off := 92) (tgt := 93) (by decide +kernel) ?_
              exact w_m_X11_told_93 C q hA N x1 σ
            · refine G_ite (fun e7 => ?_) (fun e7 => ?_)
              · refine G_tsIn C dX11_told_1 e7 (off := 92) (tgt := 93) (by decide +kernel) ?_
                exact w_m_X11_told_93 C q hA N x1 σ
              · refine G_ite (fun e8 => ?_) (fun e8 => ?_)
                · refine G_tsIn C dX11_told_1 e8 (off := 101) (tgt := 102) (by decide +kernel) ?_
                  refine G_aload_n C dX11_told_102 rfl 0 rfl ?_
                  refine G_getR C f_X11_told_19 t77 rfl dX11_told_103 ?_
                  refine G_iconst C dX11_told_106 (v := 2) (by decide +kernel) ?_
                  refine G_aldk C t81 (by decide +kernel) (k := 2) rfl dX11_told_107 ?_
                  exact G_iret C q dX11_told_108
                · refine G_ite (fun e9 => ?_) (fun e9 => ?_)
                  · refine G_tsIn C dX11_told_1 e9 (off := 108) (tgt := 109) (by decide +kernel) ?_
                    refine G_aload_n C dX11_told_109 rfl 0 rfl ?_
                    refine G_aload_n C dX11_told_110 rfl 0 rfl ?_
                    refine G_getR C f_X11_told_19 t77 rfl dX11_told_111 ?_
                    refine G_iconst C dX11_told_114 (v := 2) (by decide +kernel) ?_
                    refine G_aldk C t81 (by decide +kernel) (k := 2) rfl dX11_told_115 ?_
                    refine G_callI (rest := []) (fun a ha => g_runV C (nargs := 1) (As := [.int (σ.1 81 2)]) (rest := []) gX11_told_X11_weightOf rfl (by decide +kernel) rfl t77 rfl rfl rfl rfl dX11_told_116 (k_m_X11_weightOf X.1.2.1 X.2.1 (g_n X) (g_T X) (g_ag_sub hA (by decide +kernel)) N (σ.1 81 2) σ a ha)) (fun q10 => ?_)
                    exact G_iret C q dX11_told_119
                  · refine G_ite (fun e11 => ?_) (fun e11 => ?_)
                    · refine G_tsIn C dX11_told_1 e11 (off := 119) (tgt := 120) (by decide +kernel) ?_
                      refine G_aload_n C dX11_told_120 rfl 0 rfl ?_
                      refine G_callI (rest := []) (fun a ha => g_runV C (nargs := 0) (As := []) (rest := []) gX11_told_X11_spread rfl (by decide +kernel) rfl t77 rfl rfl rfl rfl dX11_told_121 (k_m_X11_spread X.1.2.1 X.2.1 (g_n X) (g_T X) (g_ag_sub hA (by decide +kernel)) N σ a ha)) (fun q12 => ?_)
                      exact G_iret C q dX11_told_124
                    · refine G_ite (fun e13 => ?_) (fun e13 => ?_)
                      · refine G_tsIn C dX11_told_1 e13 (off := 124) (tgt := 125) (by decide +kernel) ?_
                        refine G_aload_n C dX11_told_125 rfl 0 rfl ?_
                        refine G_getI C f_X11_told_110 t77 rfl dX11_told_126 ?_
                        exact G_iret C q dX11_told_129
                      · refine G_ite (fun e14 => ?_) (fun e14 => ?_)
                        · refine G_tsIn C dX11_told_1 e14 (off := 129) (tgt := 130) (by decide +kernel) ?_
                          refine G_aload_n C dX11_told_130 rfl 0 rfl ?_
                          refine G_getI C f_X11_told_116 t77 rfl dX11_told_131 ?_
                          exact G_iret C q dX11_told_134
                        · refine G_ite (fun e15 => ?_) (fun e15 => ?_)
                          · refine G_tsIn C dX11_told_1 e15 (off := 134) (tgt := 135) (by decide +kernel) ?_
                            refine G_aload_n C dX11_told_135 rfl 0 rfl ?_
                            refine G_getI C f_X11_told_113 t77 rfl dX11_told_136 ?_
                            exact G_iret C q dX11_told_139
                          · refine G_ite (fun e16 => ?_) (fun e16 => ?_)
                            · refine G_tsIn C dX11_told_1 e16 (off := 139) (tgt := 140) (by decide +kernel) ?_
                              refine G_aload_n C dX11_told_140 rfl 0 rfl ?_
                              refine G_getI C f_X11_told_119 t77 rfl dX11_told_141 ?_
                              exact G_iret C q dX11_told_144
                            · refine G_tsOut C dX11_told_1 (by have u0 := lv_neT e1 (a := 0) (by decide +kernel); have u1 := lv_neT e2 (a := 1) (by decide +kernel); have u2 := lv_neT e3 (a := 2) (by decide +kernel); have u3 := lv_neT e4 (a := 3) (by decide +kernel); have u4 := lv_neT e5 (a := 4) (by decide +kernel); have u5 := lv_neT e6 (a := 5) (by decide +kernel); have u6 := lv_neT e7 (a := 6) (by decide +kernel); have u7 := lv_neT e8 (a := 7) (by decide +kernel); have u8 := lv_neT e9 (a := 8) (by decide +kernel); have u9 := lv_neT e11 (a := 9) (by decide +kernel); have u10 := lv_neT e13 (a := 10) (by decide +kernel); have u11 := lv_neT e14 (a := 11) (by decide +kernel); have u12 := lv_neT e15 (a := 12) (by decide +kernel); have u13 := lv_neT e16 (a := 13) (by decide +kernel); omega) (tgt := 145) (by decide) ?_
                              refine G_ldc C dX11_told_145 c_X11_told_71 ?_
                              exact G_iret C q dX11_told_147
theorem k_m_X11_told (l : Launch) (E : g_E) (n : Nat) (T : Nat → g_Sh) (hA : g_ag L_m_X11_told n T) (N : Nat) (x1 : Int32) (σ : g_St) (a : Int32 × g_St) (h : m_X11_told N x1 σ = some a) : Met l yX11_told wsX11_told rm_m_X11_told (g_Pc E n T [.ref (E.2.1 + 77), .int x1] σ) (g_Qi E n T a) 0 0 (g_A E) :=
  g_metI (by decide +kernel) rfl rfl (Nat.le_of_ble_eq_true rfl) (fun M Qf C q => by rw [← h]; exact w_m_X11_told_0 C q hA N x1 σ)
