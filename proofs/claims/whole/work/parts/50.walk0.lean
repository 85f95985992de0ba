def L_m_X0_add : List Nat := [74, 75]
abbrev rm_m_X0_add : Room := { frames := 0, cells := 0, slots := 0, locals := 0 }
theorem f_X0_add_15 : g_Fld wsX0_add RX0 15 0 1 := ⟨RX0, TX0, 2, rfl, by decide +kernel, by decide, by decide +kernel⟩
theorem f_X0_add_9 : g_Fld wsX0_add RX0 9 0 0 := ⟨RX0, TX0, 2, rfl, by decide +kernel, by decide, by decide +kernel⟩
theorem p_X0_add_15 : g_FldP wsX0_add RX0 15 0 1 .int := ⟨RX0, TX0, 2, tyX0, rfl, by decide +kernel, by decide, by decide +kernel, tyX0_ok, nmX0, rfl, by decide +kernel⟩
set_option maxHeartbeats 4000000 in
set_option maxRecDepth 100000 in
theorem w_m_X0_add_0 {X : g_X (Int32 × g_St)} (C : g_C X cX0_add RX0 wsX0_add rm_m_X0_add 2) (q : g_qI X) (hA : g_ag L_m_X0_add (g_n X) (g_T X)) (x1 : Int32) (σ : g_St) : G X 0 [(0, .ref (g_b X + 74)), (1, .int x1)] [] σ (m_X0_add x1 σ) := by
  have t74 := g_ag_at hA (c := 74) rfl tc74
  have t75 := g_ag_at hA (c := 75) rfl tc75
  unfold m_X0_add
  refine G_aload_n C dX0_add_0 rfl 0 rfl ?_
  refine G_getI C f_X0_add_15 t74 rfl dX0_add_1 ?_
  refine G_bipush C dX0_add_4 (v := 20) (by decide +kernel) ?_
  refine G_icmp_ge C dX0_add_6 (tgt := 29) (by decide) (fun c1 => ?_) (fun c1 => ?_)
  · refine G_aload_n C dX0_add_29 rfl 0 rfl ?_
    refine G_getI C f_X0_add_15 t74 rfl dX0_add_30 ?_
    exact G_iret C q dX0_add_33
  · refine G_aload_n C dX0_add_9 rfl 0 rfl ?_
    refine G_getR C f_X0_add_9 t74 rfl dX0_add_10 ?_
    refine G_aload_n C dX0_add_13 rfl 0 rfl ?_
    refine G_getI C f_X0_add_15 t74 rfl dX0_add_14 ?_
    refine G_iload_n C dX0_add_17 rfl 1 rfl ?_
    refine G_chk (fun h2 => ?_)
    refine G_ast C t75 h2 dX0_add_18 ?_
    refine G_lts (fun σ3 => ?_)
    refine G_aload_n C dX0_add_19 rfl 0 rfl ?_
    refine G_dup C dX0_add_20 rfl ?_
    refine G_getI C f_X0_add_15 t74 rfl dX0_add_21 ?_
    refine G_iconst C dX0_add_24 (v := 1) (by decide +kernel) ?_
    refine G_iadd C dX0_add_25 ?_
    refine G_putI C p_X0_add_15 t74 rfl rfl rfl dX0_add_26 ?_
    refine G_lts (fun σ4 => ?_)
    refine G_aload_n C dX0_add_29 rfl 0 rfl ?_
    refine G_getI C f_X0_add_15 t74 rfl dX0_add_30 ?_
    exact G_iret C q dX0_add_33
theorem k_m_X0_add (l : Launch) (E : g_E) (n : Nat) (T : Nat → g_Sh) (hA : g_ag L_m_X0_add n T) (x1 : Int32) (σ : g_St) (a : Int32 × g_St) (h : m_X0_add x1 σ = some a) : Met l yX0_add wsX0_add rm_m_X0_add (g_Pc E n T [.ref (E.2.1 + 74), .int x1] σ) (g_Qi E n T a) 0 0 (g_A E) :=
  g_metI (by decide +kernel) rfl rfl (Nat.le_of_ble_eq_true rfl) (fun M Qf C q => by rw [← h]; exact w_m_X0_add_0 C q hA x1 σ)
def L_m_X10_holds : List Nat := []
abbrev rm_m_X10_holds : Room := { frames := 0, cells := 0, slots := 0, locals := 0 }
set_option maxHeartbeats 4000000 in
set_option maxRecDepth 100000 in
theorem w_m_X10_holds_0 {X : g_X (Int32 × g_St)} (C : g_C X cX10_holds RX10 wsX10_holds rm_m_X10_holds 2) (q : g_qZ X) (hA : g_ag L_m_X10_holds (g_n X) (g_T X)) (x0 : Int32) (x1 : Int32) (σ : g_St) : G X 0 [(0, .int x0), (1, .int x1)] [] σ (m_X10_holds x0 x1 σ) := by
  unfold m_X10_holds
  refine G_iload_n C dX10_holds_0 rfl 0 rfl ?_
  refine G_iload_n C dX10_holds_1 rfl 1 rfl ?_
  refine G_ishr C dX10_holds_2 ?_
  refine G_iconst C dX10_holds_3 (v := 1) (by decide +kernel) ?_
  refine G_iand C dX10_holds_4 ?_
  refine G_if_eq C dX10_holds_5 (tgt := 12) (by decide) (fun c1 => ?_) (fun c1 => ?_)
  · refine G_iconst C dX10_holds_12 (v := 0) (by decide +kernel) ?_
    exact G_zret C q (by decide) dX10_holds_13
  · refine G_iconst C dX10_holds_8 (v := 1) (by decide +kernel) ?_
    refine G_goto C dX10_holds_9 (tgt := 13) (by decide) ?_
    exact G_zret C q (by decide) dX10_holds_13
theorem k_m_X10_holds (l : Launch) (E : g_E) (n : Nat) (T : Nat → g_Sh) (hA : g_ag L_m_X10_holds n T) (x0 : Int32) (x1 : Int32) (σ : g_St) (a : Int32 × g_St) (h : m_X10_holds x0 x1 σ = some a) : Met l yX10_holds wsX10_holds rm_m_X10_holds (g_Pc E n T [.int x0, .int x1] σ) (g_Qi E n T a) 0 0 (g_A E) :=
  g_metZ (by decide +kernel) rfl rfl (Nat.le_of_ble_eq_true rfl) (fun M Qf C q => by rw [← h]; exact w_m_X10_holds_0 C q hA x0 x1 σ)
def L_m_X7_drumWithout : List Nat := [13]
abbrev rm_m_X7_drumWithout : Room := { frames := 0, cells := 0, slots := 0, locals := 0 }
theorem f_X7_drumWithout_31 : g_Fld wsX7_drumWithout RX7 31 7 5 := ⟨RX7, TX7, 6, rfl, by decide +kernel, by decide, by decide +kernel⟩
set_option maxHeartbeats 4000000 in
set_option maxRecDepth 100000 in
theorem w_m_X7_drumWithout_0 {X : g_X (Int32 × g_St)} (C : g_C X cX7_drumWithout RX7 wsX7_drumWithout rm_m_X7_drumWithout 3) (q : g_qI X) (hA : g_ag L_m_X7_drumWithout (g_n X) (g_T X)) (x1 : Int32) (x2 : Int32) (σ : g_St) : G X 0 [(0, .ref (g_b X + 13)), (1, .int x1), (2, .int x2)] [] σ (m_X7_drumWithout x1 x2 σ) := by
  have t13 := g_ag_at hA (c := 13) rfl tc13
  unfold m_X7_drumWithout
  refine G_aload_n C dX7_drumWithout_0 rfl 0 rfl ?_
  refine G_getI C f_X7_drumWithout_31 t13 rfl dX7_drumWithout_1 ?_
  refine G_if_eq C dX7_drumWithout_4 (tgt := 11) (by decide) (fun c1 => ?_) (fun c1 => ?_)
  · refine G_iload_n C dX7_drumWithout_11 rfl 1 rfl ?_
    refine G_iconst C dX7_drumWithout_12 (v := 1) (by decide +kernel) ?_
    refine G_iload_n C dX7_drumWithout_13 rfl 2 rfl ?_
    refine G_ishl C dX7_drumWithout_14 ?_
    refine G_iconst C dX7_drumWithout_15 (v := -1) (by decide +kernel) ?_
    refine G_ixor C dX7_drumWithout_16 ?_
    refine G_iand C dX7_drumWithout_17 ?_
    exact G_iret C q dX7_drumWithout_18
  · refine G_iload_n C dX7_drumWithout_7 rfl 1 rfl ?_
    refine G_goto C dX7_drumWithout_8 (tgt := 18) (by decide) ?_
    exact G_iret C q dX7_drumWithout_18
theorem k_m_X7_drumWithout (l : Launch) (E : g_E) (n : Nat) (T : Nat → g_Sh) (hA : g_ag L_m_X7_drumWithout n T) (x1 : Int32) (x2 : Int32) (σ : g_St) (a : Int32 × g_St) (h : m_X7_drumWithout x1 x2 σ = some a) : Met l yX7_drumWithout wsX7_drumWithout rm_m_X7_drumWithout (g_Pc E n T [.ref (E.2.1 + 13), .int x1, .int x2] σ) (g_Qi E n T a) 0 0 (g_A E) :=
  g_metI (by decide +kernel) rfl rfl (Nat.le_of_ble_eq_true rfl) (fun M Qf C q => by rw [← h]; exact w_m_X7_drumWithout_0 C q hA x1 x2 σ)
def L_m_X7_endsYear : List Nat := [13]
abbrev rm_m_X7_endsYear : Room := { frames := 1, cells := 0, slots := 0, locals := 22 }
theorem f_X7_endsYear_28 : g_Fld wsX7_endsYear RX7 28 7 4 := ⟨RX7, TX7, 6, rfl, by decide +kernel, by decide, by decide +kernel⟩
set_option maxHeartbeats 4000000 in
set_option maxRecDepth 100000 in
theorem w_m_X7_endsYear_19 {X : g_X (Int32 × g_St)} (C : g_C X cX7_endsYear RX7 wsX7_endsYear rm_m_X7_endsYear 4) (q : g_qZ X) (hA : g_ag L_m_X7_endsYear (g_n X) (g_T X)) (σ : g_St) : G X 19 [] [] σ (m_X7_endsYear_19 σ) := by
  unfold m_X7_endsYear_19
  refine G_iconst C dX7_endsYear_19 (v := 1) (by decide +kernel) ?_
  refine G_goto C dX7_endsYear_20 (tgt := 24) (by decide) ?_
  exact G_zret C q (by decide) dX7_endsYear_24
set_option maxHeartbeats 4000000 in
set_option maxRecDepth 100000 in
theorem w_m_X7_endsYear_0 {X : g_X (Int32 × g_St)} (C : g_C X cX7_endsYear RX7 wsX7_endsYear rm_m_X7_endsYear 4) (q : g_qZ X) (hA : g_ag L_m_X7_endsYear (g_n X) (g_T X)) (x1 : Int32) (x2 : Int32) (x3 : Int32) (σ : g_St) : G X 0 [(0, .ref (g_b X + 13)), (1, .int x1), (2, .int x2), (3, .int x3)] [] σ (m_X7_endsYear x1 x2 x3 σ) := by
  have t13 := g_ag_at hA (c := 13) rfl tc13
  unfold m_X7_endsYear
  refine G_iload_n C dX7_endsYear_0 rfl 2 rfl ?_
  refine G_iconst C dX7_endsYear_1 (v := 1) (by decide +kernel) ?_
  refine G_iadd C dX7_endsYear_2 ?_
  refine G_aload_n C dX7_endsYear_3 rfl 0 rfl ?_
  refine G_getI C f_X7_endsYear_28 t13 rfl dX7_endsYear_4 ?_
  refine G_icmp_ge C dX7_endsYear_7 (tgt := 19) (by decide) (fun c1 => ?_) (fun c1 => ?_)
  · exact G_sub (w_m_X7_endsYear_19 C q hA σ) [] rfl
  · refine G_aload_n C dX7_endsYear_10 rfl 0 rfl ?_
    refine G_iload_n C dX7_endsYear_11 rfl 1 rfl ?_
    refine G_iload_n C dX7_endsYear_12 rfl 3 rfl ?_
    refine G_callI (rest := []) (fun a ha => g_runV C (nargs := 2) (As := [.int x1, .int x3]) (rest := []) gX7_endsYear_X7_drumWithout rfl (by decide +kernel) rfl t13 rfl rfl rfl rfl dX7_endsYear_13 (k_m_X7_drumWithout X.1.2.1 X.2.1 (g_n X) (g_T X) (g_ag_sub hA (by decide +kernel)) x1 x3 σ a ha)) (fun q2 => ?_)
    refine G_if_ne C dX7_endsYear_16 (tgt := 23) (by decide) (fun c3 => ?_) (fun c3 => ?_)
    · exact G_sub (w_m_X7_endsYear_19 C q hA q2.2) [] rfl
    · refine G_iconst C dX7_endsYear_23 (v := 0) (by decide +kernel) ?_
      exact G_zret C q (by decide) dX7_endsYear_24
theorem k_m_X7_endsYear (l : Launch) (E : g_E) (n : Nat) (T : Nat → g_Sh) (hA : g_ag L_m_X7_endsYear n T) (x1 : Int32) (x2 : Int32) (x3 : Int32) (σ : g_St) (a : Int32 × g_St) (h : m_X7_endsYear x1 x2 x3 σ = some a) : Met l yX7_endsYear wsX7_endsYear rm_m_X7_endsYear (g_Pc E n T [.ref (E.2.1 + 13), .int x1, .int x2, .int x3] σ) (g_Qi E n T a) 0 0 (g_A E) :=
  g_metZ (by decide +kernel) rfl rfl (Nat.le_of_ble_eq_true rfl) (fun M Qf C q => by rw [← h]; exact w_m_X7_endsYear_0 C q hA x1 x2 x3 σ)
def L_m_X7_everyTicket : List Nat := [13]
abbrev rm_m_X7_everyTicket : Room := { frames := 0, cells := 0, slots := 0, locals := 0 }
theorem f_X7_everyTicket_25 : g_Fld wsX7_everyTicket RX7 25 7 3 := ⟨RX7, TX7, 6, rfl, by decide +kernel, by decide, by decide +kernel⟩
set_option maxHeartbeats 4000000 in
set_option maxRecDepth 100000 in
theorem w_m_X7_everyTicket_0 {X : g_X (Int32 × g_St)} (C : g_C X cX7_everyTicket RX7 wsX7_everyTicket rm_m_X7_everyTicket 1) (q : g_qI X) (hA : g_ag L_m_X7_everyTicket (g_n X) (g_T X)) (σ : g_St) : G X 0 [(0, .ref (g_b X + 13))] [] σ (m_X7_everyTicket σ) := by
  have t13 := g_ag_at hA (c := 13) rfl tc13
  unfold m_X7_everyTicket
  refine G_iconst C dX7_everyTicket_0 (v := 1) (by decide +kernel) ?_
  refine G_aload_n C dX7_everyTicket_1 rfl 0 rfl ?_
  refine G_getI C f_X7_everyTicket_25 t13 rfl dX7_everyTicket_2 ?_
  refine G_ishl C dX7_everyTicket_5 ?_
  refine G_iconst C dX7_everyTicket_6 (v := 1) (by decide +kernel) ?_
  refine G_isub C dX7_everyTicket_7 ?_
  exact G_iret C q dX7_everyTicket_8
theorem k_m_X7_everyTicket (l : Launch) (E : g_E) (n : Nat) (T : Nat → g_Sh) (hA : g_ag L_m_X7_everyTicket n T) (σ : g_St) (a : Int32 × g_St) (h : m_X7_everyTicket σ = some a) : Met l yX7_everyTicket wsX7_everyTicket rm_m_X7_everyTicket (g_Pc E n T [.ref (E.2.1 + 13)] σ) (g_Qi E n T a) 0 0 (g_A E) :=
  g_metI (by decide +kernel) rfl rfl (Nat.le_of_ble_eq_true rfl) (fun M Qf C q => by rw [← h]; exact w_m_X7_everyTicket_0 C q hA σ)
def L_m_X7_drumAfter : List Nat := [13]
abbrev rm_m_X7_drumAfter : Room := { frames := 2, cells := 0, slots := 0, locals := 45 }
set_option maxHeartbeats 4000000 in
set_option maxRecDepth 100000 in
theorem w_m_X7_drumAfter_0 {X : g_X (Int32 × g_St)} (C : g_C X cX7_drumAfter RX7 wsX7_drumAfter rm_m_X7_drumAfter 4) (q : g_qI X) (hA : g_ag L_m_X7_drumAfter (g_n X) (g_T X)) (x1 : Int32) (x2 : Int32) (x3 : Int32) (σ : g_St) : G X 0 [(0, .ref (g_b X + 13)), (1, .int x1), (2, .int x2), (3, .int x3)] [] σ (m_X7_drumAfter x1 x2 x3 σ) := by
  have t13 := g_ag_at hA (c := 13) rfl tc13
  unfold m_X7_drumAfter
  refine G_aload_n C dX7_drumAfter_0 rfl 0 rfl ?_
  refine G_iload_n C dX7_drumAfter_1 rfl 1 rfl ?_
  refine G_iload_n C dX7_drumAfter_2 rfl 2 rfl ?_
  refine G_iload_n C dX7_drumAfter_3 rfl 3 rfl ?_
  refine G_callI (rest := []) (fun a ha => g_runV C (nargs := 3) (As := [.int x1, .int x2, .int x3]) (rest := []) gX7_drumAfter_X7_endsYear rfl (by decide +kernel) rfl t13 rfl rfl rfl rfl dX7_drumAfter_4 (k_m_X7_endsYear X.1.2.1 X.2.1 (g_n X) (g_T X) (g_ag_sub hA (by decide +kernel)) x1 x2 x3 σ a ha)) (fun q1 => ?_)
  refine G_if_eq C dX7_drumAfter_7 (tgt := 17) (by decide) (fun c2 => ?_) (fun c2 => ?_)
  · refine G_aload_n C dX7_drumAfter_17 rfl 0 rfl ?_
    refine G_iload_n C dX7_drumAfter_18 rfl 1 rfl ?_
    refine G_iload_n C dX7_drumAfter_19 rfl 3 rfl ?_
    refine G_callI (rest := []) (fun a ha => g_runV C (nargs := 2) (As := [.int x1, .int x3]) (rest := []) gX7_drumAfter_X7_drumWithout rfl (by decide +kernel) rfl t13 rfl rfl rfl rfl dX7_drumAfter_20 (k_m_X7_drumWithout X.1.2.1 X.2.1 (g_n X) (g_T X) (g_ag_sub hA (by decide +kernel)) x1 x3 q1.2 a ha)) (fun q3 => ?_)
    exact G_iret C q dX7_drumAfter_23
  · refine G_aload_n C dX7_drumAfter_10 rfl 0 rfl ?_
    refine G_callI (rest := []) (fun a ha => g_runV C (nargs := 0) (As := []) (rest := []) gX7_drumAfter_X7_everyTicket rfl (by decide +kernel) rfl t13 rfl rfl rfl rfl dX7_drumAfter_11 (k_m_X7_everyTicket X.1.2.1 X.2.1 (g_n X) (g_T X) (g_ag_sub hA (by decide +kernel)) q1.2 a ha)) (fun q4 => ?_)
    refine G_goto C dX7_drumAfter_14 (tgt := 23) (by decide) ?_
    exact G_iret C q dX7_drumAfter_23
theorem k_m_X7_drumAfter (l : Launch) (E : g_E) (n : Nat) (T : Nat → g_Sh) (hA : g_ag L_m_X7_drumAfter n T) (x1 : Int32) (x2 : Int32) (x3 : Int32) (σ : g_St) (a : Int32 × g_St) (h : m_X7_drumAfter x1 x2 x3 σ = some a) : Met l yX7_drumAfter wsX7_drumAfter rm_m_X7_drumAfter (g_Pc E n T [.ref (E.2.1 + 13), .int x1, .int x2, .int x3] σ) (g_Qi E n T a) 0 0 (g_A E) :=
  g_metI (by decide +kernel) rfl rfl (Nat.le_of_ble_eq_true rfl) (fun M Qf C q => by rw [← h]; exact w_m_X7_drumAfter_0 C q hA x1 x2 x3 σ)
def L_m_X7_drawsAfter : List Nat := [13]
abbrev rm_m_X7_drawsAfter : Room := { frames := 2, cells := 0, slots := 0, locals := 45 }
set_option maxHeartbeats 4000000 in
set_option maxRecDepth 100000 in
theorem w_m_X7_drawsAfter_0 {X : g_X (Int32 × g_St)} (C : g_C X cX7_drawsAfter RX7 wsX7_drawsAfter rm_m_X7_drawsAfter 4) (q : g_qI X) (hA : g_ag L_m_X7_drawsAfter (g_n X) (g_T X)) (x1 : Int32) (x2 : Int32) (x3 : Int32) (σ : g_St) : G X 0 [(0, .ref (g_b X + 13)), (1, .int x1), (2, .int x2), (3, .int x3)] [] σ (m_X7_drawsAfter x1 x2 x3 σ) := by
  have t13 := g_ag_at hA (c := 13) rfl tc13
  unfold m_X7_drawsAfter
  refine G_aload_n C dX7_drawsAfter_0 rfl 0 rfl ?_
  refine G_iload_n C dX7_drawsAfter_1 rfl 1 rfl ?_
  refine G_iload_n C dX7_drawsAfter_2 rfl 2 rfl ?_
  refine G_iload_n C dX7_drawsAfter_3 rfl 3 rfl ?_
  refine G_callI (rest := []) (fun a ha => g_runV C (nargs := 3) (As := [.int x1, .int x2, .int x3]) (rest := []) gX7_drawsAfter_X7_endsYear rfl (by decide +kernel) rfl t13 rfl rfl rfl rfl dX7_drawsAfter_4 (k_m_X7_endsYear X.1.2.1 X.2.1 (g_n X) (g_T X) (g_ag_sub hA (by decide +kernel)) x1 x2 x3 σ a ha)) (fun q1 => ?_)
  refine G_if_eq C dX7_drawsAfter_7 (tgt := 14) (by decide) (fun c2 => ?_) (fun c2 => ?_)
  · refine G_iload_n C dX7_drawsAfter_14 rfl 2 rfl ?_
    refine G_iconst C dX7_drawsAfter_15 (v := 1) (by decide +kernel) ?_
    refine G_iadd C dX7_drawsAfter_16 ?_
    exact G_iret C q dX7_drawsAfter_17
  · refine G_iconst C dX7_drawsAfter_10 (v := 0) (by decide +kernel) ?_
    refine G_goto C dX7_drawsAfter_11 (tgt := 17) (by decide) ?_
    exact G_iret C q dX7_drawsAfter_17
theorem k_m_X7_drawsAfter (l : Launch) (E : g_E) (n : Nat) (T : Nat → g_Sh) (hA : g_ag L_m_X7_drawsAfter n T) (x1 : Int32) (x2 : Int32) (x3 : Int32) (σ : g_St) (a : Int32 × g_St) (h : m_X7_drawsAfter x1 x2 x3 σ = some a) : Met l yX7_drawsAfter wsX7_drawsAfter rm_m_X7_drawsAfter (g_Pc E n T [.ref (E.2.1 + 13), .int x1, .int x2, .int x3] σ) (g_Qi E n T a) 0 0 (g_A E) :=
  g_metI (by decide +kernel) rfl rfl (Nat.le_of_ble_eq_true rfl) (fun M Qf C q => by rw [← h]; exact w_m_X7_drawsAfter_0 C q hA x1 x2 x3 σ)
def L_m_X0_wrong : List Nat := [13, 16, 74, 75]
abbrev rm_m_X0_wrong : Room := { frames := 3, cells := 0, slots := 0, locals := 68 }
theorem f_X0_wrong_15 : g_Fld wsX0_wrong RX0 15 0 1 := ⟨RX0, TX0, 2, rfl, by decide +kernel, by decide, by decide +kernel⟩
theorem f_X0_wrong_19 : g_Fld wsX0_wrong RX0 19 4 5 := ⟨RX4, TX4, 8, rfl, by decide +kernel, by decide, by decide +kernel⟩
theorem f_X0_wrong_24 : g_Fld wsX0_wrong RX0 24 4 7 := ⟨RX4, TX4, 8, rfl, by decide +kernel, by decide, by decide +kernel⟩
theorem f_X0_wrong_9 : g_Fld wsX0_wrong RX0 9 0 0 := ⟨RX0, TX0, 2, rfl, by decide +kernel, by decide, by decide +kernel⟩
theorem n_X0_wrong_27 : Cond.methodLinkNest RX0 27 yX10_holds "BirthdayLot" ∈ g_nest := by decide +kernel
theorem w_X0_wrong_27 : Cond.static yX10_holds ∈ wsX0_wrong ∧ Cond.initialized (MethodName.cls yX10_holds) ∈ wsX0_wrong := ⟨by decide +kernel, by decide +kernel⟩
set_option maxHeartbeats 4000000 in
set_option maxRecDepth 100000 in
theorem w_m_X0_wrong_14 {X : g_X (Int32 × g_St)} (C : g_C X cX0_wrong RX0 wsX0_wrong rm_m_X0_wrong 8) (q : g_qI X) (hA : g_ag L_m_X0_wrong (g_n X) (g_T X)) (N : Nat) : ∀ (fu : Nat) (x3 : Int32) (x4 : Int32) (x5 : Int32) (σ : g_St), G X 14 [(0, .ref (g_b X + 74)), (1, .ref (g_b X + 13)), (3, .int x3), (4, .int x4), (5, .int x5)] [] σ (m_X0_wrong_14 N fu x3 x4 x5 σ) := by
  have t13 := g_ag_at hA (c := 13) rfl tc13
  have t74 := g_ag_at hA (c := 74) rfl tc74
  have t75 := g_ag_at hA (c := 75) rfl tc75
  intro fu
  induction fu with
  | zero => intro x3 x4 x5 σ; exact G_none
  | succ fu ih =>
    intro x3 x4 x5 σ
    unfold m_X0_wrong_14
    refine G_iload C dX0_wrong_14 4 rfl ?_
    refine G_aload_n C dX0_wrong_16 rfl 0 rfl ?_
    refine G_getI C f_X0_wrong_15 t74 rfl dX0_wrong_17 ?_
    refine G_icmp_ge C dX0_wrong_20 (tgt := 76) (by decide) (fun c1 => ?_) (fun c1 => ?_)
    · refine G_iconst C dX0_wrong_76 (v := -1) (by decide +kernel) ?_
      exact G_iret C q dX0_wrong_77
    · refine G_aload_n C dX0_wrong_23 rfl 0 rfl ?_
      refine G_getR C f_X0_wrong_9 t74 rfl dX0_wrong_24 ?_
      refine G_iload C dX0_wrong_27 4 rfl ?_
      refine G_chk (fun h2 => ?_)
      refine G_ald C t75 h2 dX0_wrong_29 ?_
      refine G_lti (fun v3 => ?_)
      refine G_istore C dX0_wrong_30 rfl (lv' := [(6, .int v3), (0, .ref (g_b X + 74)), (1, .ref (g_b X + 13)), (3, .int x3), (4, .int x4), (5, .int x5)]) rfl ?_
      refine G_iload_n C dX0_wrong_32 rfl 3 rfl ?_
      refine G_iload C dX0_wrong_33 0 rfl ?_
      refine G_callI (rest := []) (fun a ha => g_runSN C (nargs := 2) (As := [.int x3, .int v3]) (rest := []) (host := "BirthdayLot") gX0_wrong_X10_holds_n27 rfl n_X0_wrong_27 w_X0_wrong_27 (by decide +kernel) rfl rfl rfl dX0_wrong_35 (k_m_X10_holds X.1.2.1 X.2.1 (g_n X) (g_T X) (g_ag_sub hA (by decide +kernel)) x3 v3 σ a ha)) (fun q4 => ?_)
      refine G_if_ne C dX0_wrong_38 (tgt := 44) (by decide) (fun c5 => ?_) (fun c5 => ?_)
      · refine G_iload C dX0_wrong_41 5 rfl ?_
        exact G_iret C q dX0_wrong_43
      · refine G_iload_n C dX0_wrong_44 rfl 3 rfl ?_
        refine G_istore C dX0_wrong_45 rfl (lv' := [(7, .int x3), (6, .int v3), (0, .ref (g_b X + 74)), (1, .ref (g_b X + 13)), (3, .int x3), (4, .int x4), (5, .int x5)]) rfl ?_
        refine G_aload_n C dX0_wrong_47 rfl 3 rfl ?_
        refine G_iload C dX0_wrong_48 0 rfl ?_
        refine G_iload C dX0_wrong_50 5 rfl ?_
        refine G_iload C dX0_wrong_52 1 rfl ?_
        refine G_callI (rest := []) (fun a ha => g_runV C (nargs := 3) (As := [.int x3, .int x4, .int v3]) (rest := []) gX0_wrong_X7_drumAfter rfl (by decide +kernel) rfl t13 rfl rfl rfl rfl dX0_wrong_54 (k_m_X7_drumAfter X.1.2.1 X.2.1 (g_n X) (g_T X) (g_ag_sub hA (by decide +kernel)) x3 x4 v3 q4.2 a ha)) (fun q6 => ?_)
        refine G_istore_n C dX0_wrong_57 rfl rfl (lv' := [(3, .int q6.1), (7, .int x3), (6, .int v3), (0, .ref (g_b X + 74)), (1, .ref (g_b X + 13)), (4, .int x4), (5, .int x5)]) rfl ?_
        refine G_aload_n C dX0_wrong_58 rfl 4 rfl ?_
        refine G_iload C dX0_wrong_59 1 rfl ?_
        refine G_iload C dX0_wrong_61 5 rfl ?_
        refine G_iload C dX0_wrong_63 2 rfl ?_
        refine G_callI (rest := []) (fun a ha => g_runV C (nargs := 3) (As := [.int x3, .int x4, .int v3]) (rest := []) gX0_wrong_X7_drawsAfter rfl (by decide +kernel) rfl t13 rfl rfl rfl rfl dX0_wrong_65 (k_m_X7_drawsAfter X.1.2.1 X.2.1 (g_n X) (g_T X) (g_ag_sub hA (by decide +kernel)) x3 x4 v3 q6.2 a ha)) (fun q7 => ?_)
        refine G_istore C dX0_wrong_68 rfl (lv' := [(4, .int q7.1), (3, .int q6.1), (7, .int x3), (6, .int v3), (0, .ref (g_b X + 74)), (1, .ref (g_b X + 13)), (5, .int x5)]) rfl ?_
        refine G_iinc C dX0_wrong_70 6 rfl (v := (x5 + (1 : Int32))) (by rfl) rfl (lv' := [(5, .int (x5 + (1 : Int32))), (4, .int q7.1), (3, .int q6.1), (7, .int x3), (6, .int v3), (0, .ref (g_b X + 74)), (1, .ref (g_b X + 13))]) rfl ?_
        refine G_ltv (fun v => [(5, .int v), (4, .int q7.1), (3, .int q6.1), (7, .int x3), (6, .int v3), (0, .ref (g_b X + 74)), (1, .ref (g_b X + 13))]) (fun v8 => ?_)
        refine G_goto C dX0_wrong_73 (tgt := 14) (by decide) ?_
        exact G_sub (ih q6.1 q7.1 v8 q7.2) [5, 6, 2, 1, 0] rfl
set_option maxHeartbeats 4000000 in
set_option maxRecDepth 100000 in
theorem w_m_X0_wrong_0 {X : g_X (Int32 × g_St)} (C : g_C X cX0_wrong RX0 wsX0_wrong rm_m_X0_wrong 8) (q : g_qI X) (hA : g_ag L_m_X0_wrong (g_n X) (g_T X)) (N : Nat) (σ : g_St) : G X 0 [(0, .ref (g_b X + 74)), (1, .ref (g_b X + 13)), (2, .ref (g_b X + 16))] [] σ (m_X0_wrong N σ) := by
  have t16 := g_ag_at hA (c := 16) rfl tc16
  unfold m_X0_wrong
  refine G_aload_n C dX0_wrong_0 rfl 2 rfl ?_
  refine G_getI C f_X0_wrong_19 t16 rfl dX0_wrong_1 ?_
  refine G_lti (fun v1 => ?_)
  refine G_istore_n C dX0_wrong_4 rfl rfl (lv' := [(3, .int v1), (0, .ref (g_b X + 74)), (1, .ref (g_b X + 13)), (2, .ref (g_b X + 16))]) rfl ?_
  refine G_aload_n C dX0_wrong_5 rfl 3 rfl ?_
  refine G_getI C f_X0_wrong_24 t16 rfl dX0_wrong_6 ?_
  refine G_lti (fun v2 => ?_)
  refine G_istore C dX0_wrong_9 rfl (lv' := [(4, .int v2), (3, .int v1), (0, .ref (g_b X + 74)), (1, .ref (g_b X + 13)), (2, .ref (g_b X + 16))]) rfl ?_
  refine G_iconst C dX0_wrong_11 (v := 0) (by decide +kernel) ?_
  refine G_istore C dX0_wrong_12 rfl (lv' := [(5, .int (0 : Int32)), (4, .int v2), (3, .int v1), (0, .ref (g_b X + 74)), (1, .ref (g_b X + 13)), (2, .ref (g_b X + 16))]) rfl ?_
  exact G_sub (w_m_X0_wrong_14 C q hA N N v1 v2 (0 : Int32) σ) [3, 4, 2, 1, 0] rfl
theorem k_m_X0_wrong (l : Launch) (E : g_E) (n : Nat) (T : Nat → g_Sh) (hA : g_ag L_m_X0_wrong n T) (N : Nat) (σ : g_St) (a : Int32 × g_St) (h : m_X0_wrong N σ = some a) : Met l yX0_wrong wsX0_wrong rm_m_X0_wrong (g_Pc E n T [.ref (E.2.1 + 74), .ref (E.2.1 + 13), .ref (E.2.1 + 16)] σ) (g_Qi E n T a) 0 0 (g_A E) :=
  g_metI (by decide +kernel) rfl rfl (Nat.le_of_ble_eq_true rfl) (fun M Qf C q => by rw [← h]; exact w_m_X0_wrong_0 C q hA N σ)
def L_m_X4_whoAges : List Nat := [16, 19, 20]
abbrev rm_m_X4_whoAges : Room := { frames := 0, cells := 0, slots := 0, locals := 0 }
theorem f_X4_whoAges_18 : g_Fld wsX4_whoAges RX4 18 4 2 := ⟨RX4, TX4, 8, rfl, by decide +kernel, by decide, by decide +kernel⟩
theorem f_X4_whoAges_21 : g_Fld wsX4_whoAges RX4 21 4 3 := ⟨RX4, TX4, 8, rfl, by decide +kernel, by decide, by decide +kernel⟩
set_option maxHeartbeats 4000000 in
set_option maxRecDepth 100000 in
theorem w_m_X4_whoAges_0 {X : g_X (Int32 × g_St)} (C : g_C X cX4_whoAges RX4 wsX4_whoAges rm_m_X4_whoAges 2) (q : g_qI X) (hA : g_ag L_m_X4_whoAges (g_n X) (g_T X)) (x1 : Int32) (σ : g_St) : G X 0 [(0, .ref (g_b X + 16)), (1, .int x1)] [] σ (m_X4_whoAges x1 σ) := by
  have t16 := g_ag_at hA (c := 16) rfl tc16
  have t19 := g_ag_at hA (c := 19) rfl tc19
  have t20 := g_ag_at hA (c := 20) rfl tc20
  unfold m_X4_whoAges
  refine G_iload_n C dX4_whoAges_0 rfl 1 rfl ?_
  refine G_if_lt C dX4_whoAges_1 (tgt := 10) (by decide) (fun c1 => ?_) (fun c1 => ?_)
  · refine G_iconst C dX4_whoAges_10 (v := -1) (by decide +kernel) ?_
    exact G_iret C q dX4_whoAges_11
  · refine G_iload_n C dX4_whoAges_4 rfl 1 rfl ?_
    refine G_bipush C dX4_whoAges_5 (v := 8) (by decide +kernel) ?_
    refine G_icmp_lt C dX4_whoAges_7 (tgt := 12) (by decide) (fun c2 => ?_) (fun c2 => ?_)
    · refine G_aload_n C dX4_whoAges_12 rfl 0 rfl ?_
      refine G_getR C f_X4_whoAges_21 t16 rfl dX4_whoAges_13 ?_
      refine G_iload_n C dX4_whoAges_16 rfl 1 rfl ?_
      refine G_chk (fun h3 => ?_)
      refine G_ald C t20 h3 dX4_whoAges_17 ?_
      refine G_iconst C dX4_whoAges_18 (v := -1) (by decide +kernel) ?_
      refine G_icmp_ne C dX4_whoAges_19 (tgt := 31) (by decide) (fun c4 => ?_) (fun c4 => ?_)
      · refine G_aload_n C dX4_whoAges_22 rfl 0 rfl ?_
        refine G_getR C f_X4_whoAges_18 t16 rfl dX4_whoAges_23 ?_
        refine G_iload_n C dX4_whoAges_26 rfl 1 rfl ?_
        refine G_chk (fun h6 => ?_)
        refine G_ald C t19 h6 dX4_whoAges_27 ?_
        refine G_goto C dX4_whoAges_28 (tgt := 37) (by decide) ?_
        exact G_iret C q dX4_whoAges_37
      · refine G_aload_n C dX4_whoAges_31 rfl 0 rfl ?_
        refine G_getR C f_X4_whoAges_21 t16 rfl dX4_whoAges_32 ?_
        refine G_iload_n C dX4_whoAges_35 rfl 1 rfl ?_
        refine G_chk (fun h5 => ?_)
        refine G_ald C t20 h5 dX4_whoAges_36 ?_
        exact G_iret C q dX4_whoAges_37
    · refine G_iconst C dX4_whoAges_10 (v := -1) (by decide +kernel) ?_
      exact G_iret C q dX4_whoAges_11
theorem k_m_X4_whoAges (l : Launch) (E : g_E) (n : Nat) (T : Nat → g_Sh) (hA : g_ag L_m_X4_whoAges n T) (x1 : Int32) (σ : g_St) (a : Int32 × g_St) (h : m_X4_whoAges x1 σ = some a) : Met l yX4_whoAges wsX4_whoAges rm_m_X4_whoAges (g_Pc E n T [.ref (E.2.1 + 16), .int x1] σ) (g_Qi E n T a) 0 0 (g_A E) :=
  g_metI (by decide +kernel) rfl rfl (Nat.le_of_ble_eq_true rfl) (fun M Qf C q => by rw [← h]; exact w_m_X4_whoAges_0 C q hA x1 σ)
def L_m_X10_older : List Nat := []
abbrev rm_m_X10_older : Room := { frames := 1, cells := 0, slots := 0, locals := 30 }
theorem w_X10_older_220 : g_mw wsX10_older RX10 220 Lib.Math.min.name Lib.Math.min.code 2 := ⟨by decide +kernel, by decide +kernel, by decide +kernel, by decide +kernel⟩
set_option maxHeartbeats 4000000 in
set_option maxRecDepth 100000 in
theorem w_m_X10_older_0 {X : g_X (Int32 × g_St)} (C : g_C X cX10_older RX10 wsX10_older rm_m_X10_older 1) (q : g_qI X) (hA : g_ag L_m_X10_older (g_n X) (g_T X)) (x0 : Int32) (σ : g_St) : G X 0 [(0, .int x0)] [] σ (m_X10_older x0 σ) := by
  unfold m_X10_older
  refine G_sipush C dX10_older_0 (v := 999) (by decide +kernel) ?_
  refine G_iload_n C dX10_older_3 rfl 0 rfl ?_
  refine G_iconst C dX10_older_4 (v := 1) (by decide +kernel) ?_
  refine G_iadd C dX10_older_5 ?_
  refine G_mmin C w_X10_older_220 rfl dX10_older_6 ?_
  exact G_iret C q dX10_older_9
theorem k_m_X10_older (l : Launch) (E : g_E) (n : Nat) (T : Nat → g_Sh) (hA : g_ag L_m_X10_older n T) (x0 : Int32) (σ : g_St) (a : Int32 × g_St) (h : m_X10_older x0 σ = some a) : Met l yX10_older wsX10_older rm_m_X10_older (g_Pc E n T [.int x0] σ) (g_Qi E n T a) 0 0 (g_A E) :=
  g_metI (by decide +kernel) rfl rfl (Nat.le_of_ble_eq_true rfl) (fun M Qf C q => by rw [← h]; exact w_m_X10_older_0 C q hA x0 σ)
def L_m_X0_ageBehind : List Nat := [13, 16, 17, 19, 20, 74, 75]
abbrev rm_m_X0_ageBehind : Room := { frames := 4, cells := 0, slots := 0, locals := 95 }
theorem f_X0_ageBehind_15 : g_Fld wsX0_ageBehind RX0 15 0 1 := ⟨RX0, TX0, 2, rfl, by decide +kernel, by decide, by decide +kernel⟩
theorem f_X0_ageBehind_44 : g_Fld wsX0_ageBehind RX0 44 4 0 := ⟨RX4, TX4, 8, rfl, by decide +kernel, by decide, by decide +kernel⟩
theorem f_X0_ageBehind_9 : g_Fld wsX0_ageBehind RX0 9 0 0 := ⟨RX0, TX0, 2, rfl, by decide +kernel, by decide, by decide +kernel⟩
theorem n_X0_ageBehind_51 : Cond.methodLinkNest RX0 51 yX10_older "BirthdayLot" ∈ g_nest := by decide +kernel
theorem w_X0_ageBehind_51 : Cond.static yX10_older ∈ wsX0_ageBehind ∧ Cond.initialized (MethodName.cls yX10_older) ∈ wsX0_ageBehind := ⟨by decide +kernel, by decide +kernel⟩
set_option maxHeartbeats 4000000 in
set_option maxRecDepth 100000 in
theorem w_m_X0_ageBehind_65 {X : g_X (Int32 × g_St)} (C : g_C X cX0_ageBehind RX0 wsX0_ageBehind rm_m_X0_ageBehind 8) (q : g_qI X) (hA : g_ag L_m_X0_ageBehind (g_n X) (g_T X)) (k36 : Int32 → Int32 → Int32 → Int32 → g_St → Option (Int32 × g_St)) (hk36 : ∀ (x3 : Int32) (x5 : Int32) (x6 : Int32) (x7 : Int32) (σ : g_St), G X 36 [(0, .ref (g_b X + 74)), (2, .ref (g_b X + 16)), (3, .int x3), (5, .int x5), (6, .int x6), (7, .int x7)] [] σ (k36 x3 x5 x6 x7 σ)) (N : Nat) (x3 : Int32) (x5 : Int32) (x6 : Int32) (x7 : Int32) (σ : g_St) : G X 65 [(0, .ref (g_b X + 74)), (2, .ref (g_b X + 16)), (3, .int x3), (5, .int x5), (6, .int x6), (7, .int x7)] [] σ (m_X0_ageBehind_65 k36 N x3 x5 x6 x7 σ) := by
  unfold m_X0_ageBehind_65
  refine G_iinc C dX0_ageBehind_65 5 rfl (v := (x7 + (1 : Int32))) (by rfl) rfl (lv' := [(7, .int (x7 + (1 : Int32))), (0, .ref (g_b X + 74)), (2, .ref (g_b X + 16)), (3, .int x3), (5, .int x5), (6, .int x6)]) rfl ?_
  refine G_ltv (fun v => [(7, .int v), (0, .ref (g_b X + 74)), (2, .ref (g_b X + 16)), (3, .int x3), (5, .int x5), (6, .int x6)]) (fun v1 => ?_)
  refine G_goto C dX0_ageBehind_68 (tgt := 36) (by decide) ?_
  exact G_sub (hk36 x3 x5 x6 v1 σ) [1, 2, 3, 4, 5, 0] rfl
set_option maxHeartbeats 4000000 in
set_option maxRecDepth 100000 in
theorem w_m_X0_ageBehind_36 {X : g_X (Int32 × g_St)} (C : g_C X cX0_ageBehind RX0 wsX0_ageBehind rm_m_X0_ageBehind 8) (q : g_qI X) (hA : g_ag L_m_X0_ageBehind (g_n X) (g_T X)) (N : Nat) : ∀ (fu : Nat) (x3 : Int32) (x5 : Int32) (x6 : Int32) (x7 : Int32) (σ : g_St), G X 36 [(0, .ref (g_b X + 74)), (2, .ref (g_b X + 16)), (3, .int x3), (5, .int x5), (6, .int x6), (7, .int x7)] [] σ (m_X0_ageBehind_36 N fu x3 x5 x6 x7 σ) := by
  have t16 := g_ag_at hA (c := 16) rfl tc16
  have t74 := g_ag_at hA (c := 74) rfl tc74
  have t75 := g_ag_at hA (c := 75) rfl tc75
  intro fu
  induction fu with
  | zero => intro x3 x5 x6 x7 σ; exact G_none
  | succ fu ih =>
    intro x3 x5 x6 x7 σ
    unfold m_X0_ageBehind_36
    refine G_iload C dX0_ageBehind_36 5 rfl ?_
    refine G_iload C dX0_ageBehind_38 3 rfl ?_
    refine G_icmp_ge C dX0_ageBehind_40 (tgt := 71) (by decide) (fun c1 => ?_) (fun c1 => ?_)
    · refine G_iload C dX0_ageBehind_71 4 rfl ?_
      exact G_iret C q dX0_ageBehind_73
    · refine G_aload_n C dX0_ageBehind_43 rfl 1 rfl ?_
      refine G_aload_n C dX0_ageBehind_44 rfl 0 rfl ?_
      refine G_getR C f_X0_ageBehind_9 t74 rfl dX0_ageBehind_45 ?_
      refine G_iload C dX0_ageBehind_48 5 rfl ?_
      refine G_chk (fun h2 => ?_)
      refine G_ald C t75 h2 dX0_ageBehind_50 ?_
      refine G_callI (rest := []) (fun a ha => g_runV C (nargs := 1) (As := [.int (σ.1 75 x7.toNatClampNeg)]) (rest := []) gX0_ageBehind_X4_whoAges rfl (by decide +kernel) rfl t16 rfl rfl rfl rfl dX0_ageBehind_51 (k_m_X4_whoAges X.1.2.1 X.2.1 (g_n X) (g_T X) (g_ag_sub hA (by decide +kernel)) (σ.1 75 x7.toNatClampNeg) σ a ha)) (fun q3 => ?_)
      refine G_iload_n C dX0_ageBehind_54 rfl 2 rfl ?_
      refine G_icmp_ne C dX0_ageBehind_55 (tgt := 65) (by decide) (fun c4 => ?_) (fun c4 => ?_)
      · refine G_iload C dX0_ageBehind_58 4 rfl ?_
        refine G_callI (rest := []) (fun a ha => g_runSN C (nargs := 1) (As := [.int x6]) (rest := []) (host := "BirthdayLot") gX0_ageBehind_X10_older_n51 rfl n_X0_ageBehind_51 w_X0_ageBehind_51 (by decide +kernel) rfl rfl rfl dX0_ageBehind_60 (k_m_X10_older X.1.2.1 X.2.1 (g_n X) (g_T X) (g_ag_sub hA (by decide +kernel)) x6 q3.2 a ha)) (fun q5 => ?_)
        refine G_istore C dX0_ageBehind_63 rfl (lv' := [(6, .int q5.1), (0, .ref (g_b X + 74)), (2, .ref (g_b X + 16)), (3, .int x3), (5, .int x5), (7, .int x7)]) rfl ?_
        exact G_sub (w_m_X0_ageBehind_65 C q hA (m_X0_ageBehind_36 N fu) ih N x3 x5 q5.1 x7 q5.2) [1, 2, 3, 4, 0, 5] rfl
      · exact w_m_X0_ageBehind_65 C q hA (m_X0_ageBehind_36 N fu) ih N x3 x5 x6 x7 q3.2
set_option maxHeartbeats 4000000 in
set_option maxRecDepth 100000 in
theorem w_m_X0_ageBehind_23 {X : g_X (Int32 × g_St)} (C : g_C X cX0_ageBehind RX0 wsX0_ageBehind rm_m_X0_ageBehind 8) (q : g_qI X) (hA : g_ag L_m_X0_ageBehind (g_n X) (g_T X)) (N : Nat) (x3 : Int32) (s0 : Int32) (σ : g_St) : G X 23 [(0, .ref (g_b X + 74)), (2, .ref (g_b X + 16)), (3, .int x3)] [.int s0] σ (m_X0_ageBehind_23 N x3 s0 σ) := by
  have t16 := g_ag_at hA (c := 16) rfl tc16
  have t17 := g_ag_at hA (c := 17) rfl tc17
  unfold m_X0_ageBehind_23
  refine G_istore C dX0_ageBehind_23 rfl (lv' := [(5, .int s0), (0, .ref (g_b X + 74)), (2, .ref (g_b X + 16)), (3, .int x3)]) rfl ?_
  refine G_aload_n C dX0_ageBehind_25 rfl 2 rfl ?_
  refine G_getR C f_X0_ageBehind_44 t16 rfl dX0_ageBehind_26 ?_
  refine G_iload_n C dX0_ageBehind_29 rfl 3 rfl ?_
  refine G_chk (fun h1 => ?_)
  refine G_ald C t17 h1 dX0_ageBehind_30 ?_
  refine G_lti (fun v2 => ?_)
  refine G_istore C dX0_ageBehind_31 rfl (lv' := [(6, .int v2), (5, .int s0), (0, .ref (g_b X + 74)), (2, .ref (g_b X + 16)), (3, .int x3)]) rfl ?_
  refine G_iconst C dX0_ageBehind_33 (v := 0) (by decide +kernel) ?_
  refine G_istore C dX0_ageBehind_34 rfl (lv' := [(7, .int (0 : Int32)), (6, .int v2), (5, .int s0), (0, .ref (g_b X + 74)), (2, .ref (g_b X + 16)), (3, .int x3)]) rfl ?_
  exact G_sub (w_m_X0_ageBehind_36 C q hA N N x3 s0 v2 (0 : Int32) σ) [3, 4, 5, 2, 1, 0] rfl
set_option maxHeartbeats 4000000 in
set_option maxRecDepth 100000 in
theorem w_m_X0_ageBehind_0 {X : g_X (Int32 × g_St)} (C : g_C X cX0_ageBehind RX0 wsX0_ageBehind rm_m_X0_ageBehind 8) (q : g_qI X) (hA : g_ag L_m_X0_ageBehind (g_n X) (g_T X)) (N : Nat) (x3 : Int32) (σ : g_St) : G X 0 [(0, .ref (g_b X + 74)), (1, .ref (g_b X + 13)), (2, .ref (g_b X + 16)), (3, .int x3)] [] σ (m_X0_ageBehind N x3 σ) := by
  have t74 := g_ag_at hA (c := 74) rfl tc74
  unfold m_X0_ageBehind
  refine G_aload_n C dX0_ageBehind_0 rfl 0 rfl ?_
  refine G_aload_n C dX0_ageBehind_1 rfl 1 rfl ?_
  refine G_aload_n C dX0_ageBehind_2 rfl 2 rfl ?_
  refine G_callI (rest := []) (fun a ha => g_runV C (nargs := 2) (As := [.ref (g_b X + 13), .ref (g_b X + 16)]) (rest := []) gX0_ageBehind_X0_wrong rfl (by decide +kernel) rfl t74 rfl rfl rfl rfl dX0_ageBehind_3 (k_m_X0_wrong X.1.2.1 X.2.1 (g_n X) (g_T X) (g_ag_sub hA (by decide +kernel)) N σ a ha)) (fun q1 => ?_)
  refine G_istore C dX0_ageBehind_6 rfl (lv' := [(4, .int q1.1), (0, .ref (g_b X + 74)), (1, .ref (g_b X + 13)), (2, .ref (g_b X + 16)), (3, .int x3)]) rfl ?_
  refine G_iload C dX0_ageBehind_8 0 rfl ?_
  refine G_iconst C dX0_ageBehind_10 (v := -1) (by decide +kernel) ?_
  refine G_icmp_ne C dX0_ageBehind_11 (tgt := 21) (by decide) (fun c2 => ?_) (fun c2 => ?_)
  · refine G_aload_n C dX0_ageBehind_14 rfl 1 rfl ?_
    refine G_getI C f_X0_ageBehind_15 t74 rfl dX0_ageBehind_15 ?_
    refine G_goto C dX0_ageBehind_18 (tgt := 23) (by decide) ?_
    exact G_sub (w_m_X0_ageBehind_23 C q hA N x3 (q1.2.1 74 1) q1.2) [1, 3, 4] rfl
  · refine G_iload C dX0_ageBehind_21 0 rfl ?_
    exact G_sub (w_m_X0_ageBehind_23 C q hA N x3 q1.1 q1.2) [1, 3, 4] rfl
theorem k_m_X0_ageBehind (l : Launch) (E : g_E) (n : Nat) (T : Nat → g_Sh) (hA : g_ag L_m_X0_ageBehind n T) (N : Nat) (x3 : Int32) (σ : g_St) (a : Int32 × g_St) (h : m_X0_ageBehind N x3 σ = some a) : Met l yX0_ageBehind wsX0_ageBehind rm_m_X0_ageBehind (g_Pc E n T [.ref (E.2.1 + 74), .ref (E.2.1 + 13), .ref (E.2.1 + 16), .int x3] σ) (g_Qi E n T a) 0 0 (g_A E) :=
  g_metI (by decide +kernel) rfl rfl (Nat.le_of_ble_eq_true rfl) (fun M Qf C q => by rw [← h]; exact w_m_X0_ageBehind_0 C q hA N x3 σ)
def L_m_X1_light : List Nat := [69, 70]
abbrev rm_m_X1_light : Room := { frames := 0, cells := 0, slots := 0, locals := 0 }
theorem f_X1_light_24 : g_Fld wsX1_light RX1 24 1 4 := ⟨RX1, TX1, 8, rfl, by decide +kernel, by decide, by decide +kernel⟩
theorem f_X1_light_9 : g_Fld wsX1_light RX1 9 1 0 := ⟨RX1, TX1, 8, rfl, by decide +kernel, by decide, by decide +kernel⟩
theorem p_X1_light_24 : g_FldP wsX1_light RX1 24 1 4 .int := ⟨RX1, TX1, 8, tyX1, rfl, by decide +kernel, by decide, by decide +kernel, tyX1_ok, nmX1, rfl, by decide +kernel⟩
set_option maxHeartbeats 4000000 in
set_option maxRecDepth 100000 in
theorem w_m_X1_light_0 {X : g_X (Int32 × g_St)} (C : g_C X cX1_light RX1 wsX1_light rm_m_X1_light 3) (q : g_qI X) (hA : g_ag L_m_X1_light (g_n X) (g_T X)) (x1 : Int32) (x2 : Int32) (σ : g_St) : G X 0 [(0, .ref (g_b X + 69)), (1, .int x1), (2, .int x2)] [] σ (m_X1_light x1 x2 σ) := by
  have t69 := g_ag_at hA (c := 69) rfl tc69
  have t70 := g_ag_at hA (c := 70) rfl tc70
  unfold m_X1_light
  refine G_aload_n C dX1_light_0 rfl 0 rfl ?_
  refine G_getR C f_X1_light_9 t69 rfl dX1_light_1 ?_
  refine G_iload_n C dX1_light_4 rfl 1 rfl ?_
  refine G_iload_n C dX1_light_5 rfl 2 rfl ?_
  refine G_chk (fun h1 => ?_)
  refine G_ast C t70 h1 dX1_light_6 ?_
  refine G_lts (fun σ2 => ?_)
  refine G_aload_n C dX1_light_7 rfl 0 rfl ?_
  refine G_dup C dX1_light_8 rfl ?_
  refine G_getI C f_X1_light_24 t69 rfl dX1_light_9 ?_
  refine G_iconst C dX1_light_12 (v := 1) (by decide +kernel) ?_
  refine G_iload_n C dX1_light_13 rfl 1 rfl ?_
  refine G_ishl C dX1_light_14 ?_
  refine G_ior C dX1_light_15 ?_
  refine G_putI C p_X1_light_24 t69 rfl rfl rfl dX1_light_16 ?_
  refine G_lts (fun σ3 => ?_)
  refine G_aload_n C dX1_light_19 rfl 0 rfl ?_
  refine G_getI C f_X1_light_24 t69 rfl dX1_light_20 ?_
  exact G_iret C q dX1_light_23
theorem k_m_X1_light (l : Launch) (E : g_E) (n : Nat) (T : Nat → g_Sh) (hA : g_ag L_m_X1_light n T) (x1 : Int32) (x2 : Int32) (σ : g_St) (a : Int32 × g_St) (h : m_X1_light x1 x2 σ = some a) : Met l yX1_light wsX1_light rm_m_X1_light (g_Pc E n T [.ref (E.2.1 + 69), .int x1, .int x2] σ) (g_Qi E n T a) 0 0 (g_A E) :=
  g_metI (by decide +kernel) rfl rfl (Nat.le_of_ble_eq_true rfl) (fun M Qf C q => by rw [← h]; exact w_m_X1_light_0 C q hA x1 x2 σ)
def L_m_X1_noteRow : List Nat := [69, 72, 73]
abbrev rm_m_X1_noteRow : Room := { frames := 1, cells := 0, slots := 0, locals := 60 }
theorem f_X1_noteRow_18 : g_Fld wsX1_noteRow RX1 18 1 2 := ⟨RX1, TX1, 8, rfl, by decide +kernel, by decide, by decide +kernel⟩
theorem f_X1_noteRow_21 : g_Fld wsX1_noteRow RX1 21 1 3 := ⟨RX1, TX1, 8, rfl, by decide +kernel, by decide, by decide +kernel⟩
theorem f_X1_noteRow_28 : g_Fld wsX1_noteRow RX1 28 1 5 := ⟨RX1, TX1, 8, rfl, by decide +kernel, by decide, by decide +kernel⟩
theorem f_X1_noteRow_31 : g_Fld wsX1_noteRow RX1 31 1 6 := ⟨RX1, TX1, 8, rfl, by decide +kernel, by decide, by decide +kernel⟩
theorem f_X1_noteRow_34 : g_Fld wsX1_noteRow RX1 34 1 7 := ⟨RX1, TX1, 8, rfl, by decide +kernel, by decide, by decide +kernel⟩
theorem p_X1_noteRow_28 : g_FldP wsX1_noteRow RX1 28 1 5 .int := ⟨RX1, TX1, 8, tyX1, rfl, by decide +kernel, by decide, by decide +kernel, tyX1_ok, nmX1, rfl, by decide +kernel⟩
theorem p_X1_noteRow_31 : g_FldP wsX1_noteRow RX1 31 1 6 .int := ⟨RX1, TX1, 8, tyX1, rfl, by decide +kernel, by decide, by decide +kernel, tyX1_ok, nmX1, rfl, by decide +kernel⟩
theorem w_X1_noteRow_40 : g_cw wsX1_noteRow RX1 40 := ⟨by decide +kernel, by decide +kernel, by decide +kernel, by decide +kernel⟩
set_option maxHeartbeats 4000000 in
set_option maxRecDepth 100000 in
theorem w_m_X1_noteRow_35 {X : g_X (g_St)} (C : g_C X cX1_noteRow RX1 wsX1_noteRow rm_m_X1_noteRow 3) (q : g_qV X) (hA : g_ag L_m_X1_noteRow (g_n X) (g_T X)) (N : Nat) : ∀ (fu : Nat) (x1 : Int32) (x2 : Int32) (σ : g_St), G X 35 [(0, .ref (g_b X + 69)), (1, .int x1), (2, .int x2)] [] σ (m_X1_noteRow_35 N fu x1 x2 σ) := by
  have t69 := g_ag_at hA (c := 69) rfl tc69
  have t72 := g_ag_at hA (c := 72) rfl tc72
  intro fu
  induction fu with
  | zero => intro x1 x2 σ; exact G_none
  | succ fu ih =>
    intro x1 x2 σ
    unfold m_X1_noteRow_35
    refine G_iload_n C dX1_noteRow_35 rfl 2 rfl ?_
    refine G_aload_n C dX1_noteRow_36 rfl 0 rfl ?_
    refine G_getI C f_X1_noteRow_34 t69 rfl dX1_noteRow_37 ?_
    refine G_icmp_ge C dX1_noteRow_40 (tgt := 60) (by decide) (fun c1 => ?_) (fun c1 => ?_)
    · refine G_aload_n C dX1_noteRow_60 rfl 0 rfl ?_
      refine G_dup C dX1_noteRow_61 rfl ?_
      refine G_getI C f_X1_noteRow_31 t69 rfl dX1_noteRow_62 ?_
      refine G_iload_n C dX1_noteRow_65 rfl 1 rfl ?_
      refine G_iand C dX1_noteRow_66 ?_
      refine G_putI C p_X1_noteRow_31 t69 rfl rfl rfl dX1_noteRow_67 ?_
      refine G_lts (fun σ2 => ?_)
      exact G_vret C q dX1_noteRow_70
    · refine G_iload_n C dX1_noteRow_43 rfl 1 rfl ?_
      refine G_iconst C dX1_noteRow_44 (v := 1) (by decide +kernel) ?_
      refine G_aload_n C dX1_noteRow_45 rfl 0 rfl ?_
      refine G_getR C f_X1_noteRow_18 t69 rfl dX1_noteRow_46 ?_
      refine G_iload_n C dX1_noteRow_49 rfl 2 rfl ?_
      refine G_chk (fun h3 => ?_)
      refine G_ald C t72 h3 dX1_noteRow_50 ?_
      refine G_ishl C dX1_noteRow_51 ?_
      refine G_ior C dX1_noteRow_52 ?_
      refine G_lti (fun v4 => ?_)
      refine G_istore_n C dX1_noteRow_53 rfl rfl (lv' := [(1, .int v4), (0, .ref (g_b X + 69)), (2, .int x2)]) rfl ?_
      refine G_iinc C dX1_noteRow_54 2 rfl (v := (x2 + (1 : Int32))) (by rfl) rfl (lv' := [(2, .int (x2 + (1 : Int32))), (1, .int v4), (0, .ref (g_b X + 69))]) rfl ?_
      refine G_ltv (fun v => [(2, .int v), (1, .int v4), (0, .ref (g_b X + 69))]) (fun v5 => ?_)
      refine G_goto C dX1_noteRow_57 (tgt := 35) (by decide) ?_
      exact G_sub (ih v4 v5 σ) [2, 1, 0] rfl
set_option maxHeartbeats 4000000 in
set_option maxRecDepth 100000 in
theorem w_m_X1_noteRow_21 {X : g_X (g_St)} (C : g_C X cX1_noteRow RX1 wsX1_noteRow rm_m_X1_noteRow 3) (q : g_qV X) (hA : g_ag L_m_X1_noteRow (g_n X) (g_T X)) (N : Nat) (σ : g_St) : G X 21 [(0, .ref (g_b X + 69))] [] σ (m_X1_noteRow_21 N σ) := by
  have t69 := g_ag_at hA (c := 69) rfl tc69
  unfold m_X1_noteRow_21
  refine G_aload_n C dX1_noteRow_21 rfl 0 rfl ?_
  refine G_dup C dX1_noteRow_22 rfl ?_
  refine G_getI C f_X1_noteRow_28 t69 rfl dX1_noteRow_23 ?_
  refine G_iconst C dX1_noteRow_26 (v := 1) (by decide +kernel) ?_
  refine G_iadd C dX1_noteRow_27 ?_
  refine G_putI C p_X1_noteRow_28 t69 rfl rfl rfl dX1_noteRow_28 ?_
  refine G_lts (fun σ1 => ?_)
  refine G_iconst C dX1_noteRow_31 (v := 0) (by decide +kernel) ?_
  refine G_istore_n C dX1_noteRow_32 rfl rfl (lv' := [(1, .int (0 : Int32)), (0, .ref (g_b X + 69))]) rfl ?_
  refine G_iconst C dX1_noteRow_33 (v := 0) (by decide +kernel) ?_
  refine G_istore_n C dX1_noteRow_34 rfl rfl (lv' := [(2, .int (0 : Int32)), (1, .int (0 : Int32)), (0, .ref (g_b X + 69))]) rfl ?_
  exact G_sub (w_m_X1_noteRow_35 C q hA N N (0 : Int32) (0 : Int32) σ1) [2, 1, 0] rfl
set_option maxHeartbeats 4000000 in
set_option maxRecDepth 100000 in
theorem w_m_X1_noteRow_0 {X : g_X (g_St)} (C : g_C X cX1_noteRow RX1 wsX1_noteRow rm_m_X1_noteRow 3) (q : g_qV X) (hA : g_ag L_m_X1_noteRow (g_n X) (g_T X)) (N : Nat) (σ : g_St) : G X 0 [(0, .ref (g_b X + 69))] [] σ (m_X1_noteRow N σ) := by
  have t69 := g_ag_at hA (c := 69) rfl tc69
  have t72 := g_ag_at hA (c := 72) rfl tc72
  have t73 := g_ag_at hA (c := 73) rfl tc73
  unfold m_X1_noteRow
  refine G_aload_n C dX1_noteRow_0 rfl 0 rfl ?_
  refine G_getI C f_X1_noteRow_28 t69 rfl dX1_noteRow_1 ?_
  refine G_if_ne C dX1_noteRow_4 (tgt := 21) (by decide) (fun c1 => ?_) (fun c1 => ?_)
  · refine G_aload_n C dX1_noteRow_7 rfl 0 rfl ?_
    refine G_getR C f_X1_noteRow_18 t69 rfl dX1_noteRow_8 ?_
    refine G_iconst C dX1_noteRow_11 (v := 0) (by decide +kernel) ?_
    refine G_aload_n C dX1_noteRow_12 rfl 0 rfl ?_
    refine G_getR C f_X1_noteRow_21 t69 rfl dX1_noteRow_13 ?_
    refine G_iconst C dX1_noteRow_16 (v := 0) (by decide +kernel) ?_
    refine G_iconst C dX1_noteRow_17 (v := 4) (by decide +kernel) ?_
    refine G_copyk C w_X1_noteRow_40 rfl t72 t73 (by decide +kernel) (ks := 0) (kd := 0) (kn := 4) rfl rfl rfl dX1_noteRow_18 ?_
    refine G_lts (fun σ2 => ?_)
    exact w_m_X1_noteRow_21 C q hA N σ2
  · exact w_m_X1_noteRow_21 C q hA N σ
theorem k_m_X1_noteRow (l : Launch) (E : g_E) (n : Nat) (T : Nat → g_Sh) (hA : g_ag L_m_X1_noteRow n T) (N : Nat) (σ : g_St) (a : g_St) (h : m_X1_noteRow N σ = some a) : Met l yX1_noteRow wsX1_noteRow rm_m_X1_noteRow (g_Pc E n T [.ref (E.2.1 + 69)] σ) (g_Qv E n T a) 0 0 (g_A E) :=
  g_metV (by decide +kernel) rfl rfl (Nat.le_of_ble_eq_true rfl) (fun M Qf C q => by rw [← h]; exact w_m_X1_noteRow_0 C q hA N σ)
def L_m_X1_extend : List Nat := [13, 16, 19, 20, 69, 70, 71, 72, 73]
abbrev rm_m_X1_extend (k : Nat) : Room := { frames := 3 + k, cells := 0, slots := 0, locals := 82 + 34 * k }
theorem f_X1_extend_15 : g_Fld wsX1_extend RX1 15 1 1 := ⟨RX1, TX1, 8, rfl, by decide +kernel, by decide, by decide +kernel⟩
theorem f_X1_extend_18 : g_Fld wsX1_extend RX1 18 1 2 := ⟨RX1, TX1, 8, rfl, by decide +kernel, by decide, by decide +kernel⟩
theorem f_X1_extend_24 : g_Fld wsX1_extend RX1 24 1 4 := ⟨RX1, TX1, 8, rfl, by decide +kernel, by decide, by decide +kernel⟩
theorem f_X1_extend_34 : g_Fld wsX1_extend RX1 34 1 7 := ⟨RX1, TX1, 8, rfl, by decide +kernel, by decide, by decide +kernel⟩
theorem f_X1_extend_76 : g_Fld wsX1_extend RX1 76 7 3 := ⟨RX7, TX7, 6, rfl, by decide +kernel, by decide, by decide +kernel⟩
theorem f_X1_extend_9 : g_Fld wsX1_extend RX1 9 1 0 := ⟨RX1, TX1, 8, rfl, by decide +kernel, by decide, by decide +kernel⟩
theorem n_X1_extend_59 : Cond.methodLinkNest RX1 59 yX10_holds "BirthdayLot" ∈ g_nest := by decide +kernel
theorem n_X1_extend_83 : Cond.methodLinkNest RX1 83 yX10_older "BirthdayLot" ∈ g_nest := by decide +kernel
theorem w_X1_extend_59 : Cond.static yX10_holds ∈ wsX1_extend ∧ Cond.initialized (MethodName.cls yX10_holds) ∈ wsX1_extend := ⟨by decide +kernel, by decide +kernel⟩
theorem w_X1_extend_83 : Cond.static yX10_older ∈ wsX1_extend ∧ Cond.initialized (MethodName.cls yX10_older) ∈ wsX1_extend := ⟨by decide +kernel, by decide +kernel⟩
set_option maxHeartbeats 4000000 in
set_option maxRecDepth 100000 in
theorem w_m_X1_extend_25 {rm rmc : Room} {X : g_X (g_St)} (C : g_C X cX1_extend RX1 wsX1_extend rm 15) (q : g_qV X) (hA : g_ag L_m_X1_extend (g_n X) (g_T X)) (F_m_X1_noteRow : g_fit rm_m_X1_noteRow rm 3 = true) (F_m_X4_whoAges : g_fit rm_m_X4_whoAges rm 2 = true) (F_m_X10_holds : g_fit rm_m_X10_holds rm 2 = true) (F_m_X10_older : g_fit rm_m_X10_older rm 1 = true) (F_m_X7_drumAfter : g_fit rm_m_X7_drumAfter rm 4 = true) (F_m_X7_drawsAfter : g_fit rm_m_X7_drawsAfter rm 4 = true) (F_rec : g_fit rmc rm 15 = true) (rc : Int32 → Int32 → Int32 → Int32 → g_St → Option (g_St)) (hrc : ∀ (l : Launch) (E : g_E) (n : Nat) (T : Nat → g_Sh) (_ : g_ag L_m_X1_extend n T) (x3 : Int32) (x4 : Int32) (x5 : Int32) (x6 : Int32) (σ : g_St) (a : g_St) (_ : rc x3 x4 x5 x6 σ = some a), Met l yX1_extend wsX1_extend rmc (g_Pc E n T [.ref (E.2.1 + 69), .ref (E.2.1 + 13), .ref (E.2.1 + 16), .int x3, .int x4, .int x5, .int x6] σ) (g_Qv E n T a) 0 0 (g_A E)) (N : Nat) (σ : g_St) : G X 25 [(0, .ref (g_b X + 69))] [] σ (m_X1_extend_25 rc N σ) := by
  have t69 := g_ag_at hA (c := 69) rfl tc69
  unfold m_X1_extend_25
  refine G_aload_n C dX1_extend_25 rfl 0 rfl ?_
  refine G_callV (rest := []) (fun a ha => g_runV C (nargs := 0) (As := []) (rest := []) gX1_extend_X1_noteRow rfl (by decide +kernel) F_m_X1_noteRow t69 rfl rfl rfl rfl dX1_extend_26 (k_m_X1_noteRow X.1.2.1 X.2.1 (g_n X) (g_T X) (g_ag_sub hA (by decide +kernel)) N σ a ha)) (fun σ1 => ?_)
  exact G_vret C q dX1_extend_29
set_option maxHeartbeats 4000000 in
set_option maxRecDepth 100000 in
theorem w_m_X1_extend_207 {rm rmc : Room} {X : g_X (g_St)} (C : g_C X cX1_extend RX1 wsX1_extend rm 15) (q : g_qV X) (hA : g_ag L_m_X1_extend (g_n X) (g_T X)) (F_m_X1_noteRow : g_fit rm_m_X1_noteRow rm 3 = true) (F_m_X4_whoAges : g_fit rm_m_X4_whoAges rm 2 = true) (F_m_X10_holds : g_fit rm_m_X10_holds rm 2 = true) (F_m_X10_older : g_fit rm_m_X10_older rm 1 = true) (F_m_X7_drumAfter : g_fit rm_m_X7_drumAfter rm 4 = true) (F_m_X7_drawsAfter : g_fit rm_m_X7_drawsAfter rm 4 = true) (F_rec : g_fit rmc rm 15 = true) (rc : Int32 → Int32 → Int32 → Int32 → g_St → Option (g_St)) (hrc : ∀ (l : Launch) (E : g_E) (n : Nat) (T : Nat → g_Sh) (_ : g_ag L_m_X1_extend n T) (x3 : Int32) (x4 : Int32) (x5 : Int32) (x6 : Int32) (σ : g_St) (a : g_St) (_ : rc x3 x4 x5 x6 σ = some a), Met l yX1_extend wsX1_extend rmc (g_Pc E n T [.ref (E.2.1 + 69), .ref (E.2.1 + 13), .ref (E.2.1 + 16), .int x3, .int x4, .int x5, .int x6] σ) (g_Qv E n T a) 0 0 (g_A E)) (k33 : Int32 → Int32 → Int32 → Int32 → Int32 → g_St → Option (g_St)) (hk33 : ∀ (x3 : Int32) (x4 : Int32) (x5 : Int32) (x6 : Int32) (x7 : Int32) (σ : g_St), G X 33 [(0, .ref (g_b X + 69)), (1, .ref (g_b X + 13)), (2, .ref (g_b X + 16)), (3, .int x3), (4, .int x4), (5, .int x5), (6, .int x6), (7, .int x7)] [] σ (k33 x3 x4 x5 x6 x7 σ)) (N : Nat) (x3 : Int32) (x4 : Int32) (x5 : Int32) (x6 : Int32) (x7 : Int32) (σ : g_St) : G X 207 [(0, .ref (g_b X + 69)), (1, .ref (g_b X + 13)), (2, .ref (g_b X + 16)), (3, .int x3), (4, .int x4), (5, .int x5), (6, .int x6), (7, .int x7)] [] σ (m_X1_extend_207 rc k33 N x3 x4 x5 x6 x7 σ) := by
  unfold m_X1_extend_207
  refine G_iinc C dX1_extend_207 7 rfl (v := (x7 + (1 : Int32))) (by rfl) rfl (lv' := [(7, .int (x7 + (1 : Int32))), (0, .ref (g_b X + 69)), (1, .ref (g_b X + 13)), (2, .ref (g_b X + 16)), (3, .int x3), (4, .int x4), (5, .int x5), (6, .int x6)]) rfl ?_
  refine G_ltv (fun v => [(7, .int v), (0, .ref (g_b X + 69)), (1, .ref (g_b X + 13)), (2, .ref (g_b X + 16)), (3, .int x3), (4, .int x4), (5, .int x5), (6, .int x6)]) (fun v1 => ?_)
  refine G_goto C dX1_extend_210 (tgt := 33) (by decide) ?_
  exact G_sub (hk33 x3 x4 x5 x6 v1 σ) [1, 2, 3, 4, 5, 6, 7, 0] rfl
set_option maxHeartbeats 4000000 in
set_option maxRecDepth 100000 in
theorem w_m_X1_extend_164 {rm rmc : Room} {X : g_X (g_St)} (C : g_C X cX1_extend RX1 wsX1_extend rm 15) (q : g_qV X) (hA : g_ag L_m_X1_extend (g_n X) (g_T X)) (F_m_X1_noteRow : g_fit rm_m_X1_noteRow rm 3 = true) (F_m_X4_whoAges : g_fit rm_m_X4_whoAges rm 2 = true) (F_m_X10_holds : g_fit rm_m_X10_holds rm 2 = true) (F_m_X10_older : g_fit rm_m_X10_older rm 1 = true) (F_m_X7_drumAfter : g_fit rm_m_X7_drumAfter rm 4 = true) (F_m_X7_drawsAfter : g_fit rm_m_X7_drawsAfter rm 4 = true) (F_rec : g_fit rmc rm 15 = true) (rc : Int32 → Int32 → Int32 → Int32 → g_St → Option (g_St)) (hrc : ∀ (l : Launch) (E : g_E) (n : Nat) (T : Nat → g_Sh) (_ : g_ag L_m_X1_extend n T) (x3 : Int32) (x4 : Int32) (x5 : Int32) (x6 : Int32) (σ : g_St) (a : g_St) (_ : rc x3 x4 x5 x6 σ = some a), Met l yX1_extend wsX1_extend rmc (g_Pc E n T [.ref (E.2.1 + 69), .ref (E.2.1 + 13), .ref (E.2.1 + 16), .int x3, .int x4, .int x5, .int x6] σ) (g_Qv E n T a) 0 0 (g_A E)) (k33 : Int32 → Int32 → Int32 → Int32 → Int32 → g_St → Option (g_St)) (hk33 : ∀ (x3 : Int32) (x4 : Int32) (x5 : Int32) (x6 : Int32) (x7 : Int32) (σ : g_St), G X 33 [(0, .ref (g_b X + 69)), (1, .ref (g_b X + 13)), (2, .ref (g_b X + 16)), (3, .int x3), (4, .int x4), (5, .int x5), (6, .int x6), (7, .int x7)] [] σ (k33 x3 x4 x5 x6 x7 σ)) (N : Nat) (x3 : Int32) (x4 : Int32) (x5 : Int32) (x6 : Int32) (x7 : Int32) (x8 : Int32) (x9 : Int32) (x10 : Int32) (x12 : Int32) (x13 : Int32) (s0 : Int32) (σ : g_St) : G X 164 [(0, .ref (g_b X + 69)), (1, .ref (g_b X + 13)), (2, .ref (g_b X + 16)), (3, .int x3), (4, .int x4), (5, .int x5), (6, .int x6), (7, .int x7), (8, .int x8), (9, .int x9), (10, .int x10), (12, .int x12), (13, .int x13)] [.int s0] σ (m_X1_extend_164 rc k33 N x3 x4 x5 x6 x7 x8 x9 x10 x12 x13 s0 σ) := by
  have t69 := g_ag_at hA (c := 69) rfl tc69
  have t71 := g_ag_at hA (c := 71) rfl tc71
  have t72 := g_ag_at hA (c := 72) rfl tc72
  unfold m_X1_extend_164
  refine G_istore C dX1_extend_164 rfl (lv' := [(14, .int s0), (0, .ref (g_b X + 69)), (1, .ref (g_b X + 13)), (2, .ref (g_b X + 16)), (3, .int x3), (4, .int x4), (5, .int x5), (6, .int x6), (7, .int x7), (8, .int x8), (9, .int x9), (10, .int x10), (12, .int x12), (13, .int x13)]) rfl ?_
  refine G_aload_n C dX1_extend_166 rfl 1 rfl ?_
  refine G_getR C f_X1_extend_18 t69 rfl dX1_extend_167 ?_
  refine G_iload_n C dX1_extend_170 rfl 4 rfl ?_
  refine G_iload C dX1_extend_171 8 rfl ?_
  refine G_chk (fun h1 => ?_)
  refine G_ast C t72 h1 dX1_extend_173 ?_
  refine G_lts (fun σ2 => ?_)
  refine G_aload_n C dX1_extend_174 rfl 1 rfl ?_
  refine G_getR C f_X1_extend_15 t69 rfl dX1_extend_175 ?_
  refine G_iload C dX1_extend_178 9 rfl ?_
  refine G_iload C dX1_extend_180 11 rfl ?_
  refine G_chk (fun h3 => ?_)
  refine G_ast C t71 h3 dX1_extend_182 ?_
  refine G_lts (fun σ4 => ?_)
  refine G_aload_n C dX1_extend_183 rfl 1 rfl ?_
  refine G_aload_n C dX1_extend_184 rfl 2 rfl ?_
  refine G_aload_n C dX1_extend_185 rfl 3 rfl ?_
  refine G_iload_n C dX1_extend_186 rfl 4 rfl ?_
  refine G_iconst C dX1_extend_187 (v := 1) (by decide +kernel) ?_
  refine G_iadd C dX1_extend_188 ?_
  refine G_iload C dX1_extend_189 12 rfl ?_
  refine G_iload C dX1_extend_191 13 rfl ?_
  refine G_iload C dX1_extend_193 0 rfl ?_
  refine G_callV (rest := []) (fun a ha => g_runS C (nargs := 7) (As := [.ref (g_b X + 69), .ref (g_b X + 13), .ref (g_b X + 16), .int (x3 + (1 : Int32)), .int x12, .int x13, .int s0]) (rest := []) gX1_extend_X1_extend rfl (by decide +kernel) F_rec rfl rfl dX1_extend_195 (hrc X.1.2.1 X.2.1 (g_n X) (g_T X) (g_ag_sub hA (by decide +kernel)) (x3 + (1 : Int32)) x12 x13 s0 σ4 a ha)) (fun σ5 => ?_)
  refine G_aload_n C dX1_extend_198 rfl 1 rfl ?_
  refine G_getR C f_X1_extend_15 t69 rfl dX1_extend_199 ?_
  refine G_iload C dX1_extend_202 9 rfl ?_
  refine G_iload C dX1_extend_204 10 rfl ?_
  refine G_chk (fun h6 => ?_)
  refine G_ast C t71 h6 dX1_extend_206 ?_
  refine G_lts (fun σ7 => ?_)
  exact G_sub (w_m_X1_extend_207 C q hA F_m_X1_noteRow F_m_X4_whoAges F_m_X10_holds F_m_X10_older F_m_X7_drumAfter F_m_X7_drawsAfter F_rec rc hrc k33 hk33 N x3 x4 x5 x6 x7 σ7) [1, 2, 3, 4, 5, 6, 7, 8] rfl
set_option maxHeartbeats 4000000 in
set_option maxRecDepth 100000 in
theorem w_m_X1_extend_122 {rm rmc : Room} {X : g_X (g_St)} (C : g_C X cX1_extend RX1 wsX1_extend rm 15) (q : g_qV X) (hA : g_ag L_m_X1_extend (g_n X) (g_T X)) (F_m_X1_noteRow : g_fit rm_m_X1_noteRow rm 3 = true) (F_m_X4_whoAges : g_fit rm_m_X4_whoAges rm 2 = true) (F_m_X10_holds : g_fit rm_m_X10_holds rm 2 = true) (F_m_X10_older : g_fit rm_m_X10_older rm 1 = true) (F_m_X7_drumAfter : g_fit rm_m_X7_drumAfter rm 4 = true) (F_m_X7_drawsAfter : g_fit rm_m_X7_drawsAfter rm 4 = true) (F_rec : g_fit rmc rm 15 = true) (rc : Int32 → Int32 → Int32 → Int32 → g_St → Option (g_St)) (hrc : ∀ (l : Launch) (E : g_E) (n : Nat) (T : Nat → g_Sh) (_ : g_ag L_m_X1_extend n T) (x3 : Int32) (x4 : Int32) (x5 : Int32) (x6 : Int32) (σ : g_St) (a : g_St) (_ : rc x3 x4 x5 x6 σ = some a), Met l yX1_extend wsX1_extend rmc (g_Pc E n T [.ref (E.2.1 + 69), .ref (E.2.1 + 13), .ref (E.2.1 + 16), .int x3, .int x4, .int x5, .int x6] σ) (g_Qv E n T a) 0 0 (g_A E)) (k33 : Int32 → Int32 → Int32 → Int32 → Int32 → g_St → Option (g_St)) (hk33 : ∀ (x3 : Int32) (x4 : Int32) (x5 : Int32) (x6 : Int32) (x7 : Int32) (σ : g_St), G X 33 [(0, .ref (g_b X + 69)), (1, .ref (g_b X + 13)), (2, .ref (g_b X + 16)), (3, .int x3), (4, .int x4), (5, .int x5), (6, .int x6), (7, .int x7)] [] σ (k33 x3 x4 x5 x6 x7 σ)) (N : Nat) (x3 : Int32) (x4 : Int32) (x5 : Int32) (x6 : Int32) (x7 : Int32) (x8 : Int32) (x9 : Int32) (x10 : Int32) (x11 : Int32) (σ : g_St) : G X 122 [(0, .ref (g_b X + 69)), (1, .ref (g_b X + 13)), (2, .ref (g_b X + 16)), (3, .int x3), (4, .int x4), (5, .int x5), (6, .int x6), (7, .int x7), (8, .int x8), (9, .int x9), (10, .int x10), (11, .int x11)] [] σ (m_X1_extend_122 rc k33 N x3 x4 x5 x6 x7 x8 x9 x10 x11 σ) := by
  have t13 := g_ag_at hA (c := 13) rfl tc13
  unfold m_X1_extend_122
  refine G_aload_n C dX1_extend_122 rfl 1 rfl ?_
  refine G_iload C dX1_extend_123 4 rfl ?_
  refine G_iload C dX1_extend_125 5 rfl ?_
  refine G_iload C dX1_extend_127 7 rfl ?_
  refine G_callI (rest := []) (fun a ha => g_runV C (nargs := 3) (As := [.int x4, .int x5, .int x7]) (rest := []) gX1_extend_X7_drumAfter rfl (by decide +kernel) F_m_X7_drumAfter t13 rfl rfl rfl rfl dX1_extend_129 (k_m_X7_drumAfter X.1.2.1 X.2.1 (g_n X) (g_T X) (g_ag_sub hA (by decide +kernel)) x4 x5 x7 σ a ha)) (fun q1 => ?_)
  refine G_istore C dX1_extend_132 rfl (lv' := [(12, .int q1.1), (0, .ref (g_b X + 69)), (1, .ref (g_b X + 13)), (2, .ref (g_b X + 16)), (3, .int x3), (4, .int x4), (5, .int x5), (6, .int x6), (7, .int x7), (8, .int x8), (9, .int x9), (10, .int x10), (11, .int x11)]) rfl ?_
  refine G_aload_n C dX1_extend_134 rfl 2 rfl ?_
  refine G_iload C dX1_extend_135 5 rfl ?_
  refine G_iload C dX1_extend_137 6 rfl ?_
  refine G_iload C dX1_extend_139 8 rfl ?_
  refine G_callI (rest := []) (fun a ha => g_runV C (nargs := 3) (As := [.int x4, .int x5, .int x7]) (rest := []) gX1_extend_X7_drawsAfter rfl (by decide +kernel) F_m_X7_drawsAfter t13 rfl rfl rfl rfl dX1_extend_141 (k_m_X7_drawsAfter X.1.2.1 X.2.1 (g_n X) (g_T X) (g_ag_sub hA (by decide +kernel)) x4 x5 x7 q1.2 a ha)) (fun q2 => ?_)
  refine G_istore C dX1_extend_144 rfl (lv' := [(13, .int q2.1), (12, .int q1.1), (0, .ref (g_b X + 69)), (1, .ref (g_b X + 13)), (2, .ref (g_b X + 16)), (3, .int x3), (4, .int x4), (5, .int x5), (6, .int x6), (7, .int x7), (8, .int x8), (9, .int x9), (10, .int x10), (11, .int x11)]) rfl ?_
  refine G_iload C dX1_extend_146 13 rfl ?_
  refine G_if_eq C dX1_extend_148 (tgt := 162) (by decide) (fun c3 => ?_) (fun c3 => ?_)
  · refine G_iload C dX1_extend_162 8 rfl ?_
    exact G_sub (w_m_X1_extend_164 C q hA F_m_X1_noteRow F_m_X4_whoAges F_m_X10_holds F_m_X10_older F_m_X7_drumAfter F_m_X7_drawsAfter F_rec rc hrc k33 hk33 N x3 x4 x5 x6 x7 x8 x9 x10 q1.1 q2.1 x6 q2.2) [2, 3, 4, 5, 6, 7, 8, 9, 10, 11, 12, 1, 0] rfl
  · refine G_iload C dX1_extend_151 8 rfl ?_
    refine G_iload C dX1_extend_153 12 rfl ?_
    refine G_iload C dX1_extend_155 11 rfl ?_
    refine G_isub C dX1_extend_157 ?_
    refine G_isub C dX1_extend_158 ?_
    refine G_goto C dX1_extend_159 (tgt := 164) (by decide) ?_
    exact G_sub (w_m_X1_extend_164 C q hA F_m_X1_noteRow F_m_X4_whoAges F_m_X10_holds F_m_X10_older F_m_X7_drumAfter F_m_X7_drawsAfter F_rec rc hrc k33 hk33 N x3 x4 x5 x6 x7 x8 x9 x10 q1.1 q2.1 (x6 - (x10 - x9)) q2.2) [2, 3, 4, 5, 6, 7, 8, 9, 10, 11, 12, 1, 0] rfl
set_option maxHeartbeats 4000000 in
set_option maxRecDepth 100000 in
theorem w_m_X1_extend_33 {rm rmc : Room} {X : g_X (g_St)} (C : g_C X cX1_extend RX1 wsX1_extend rm 15) (q : g_qV X) (hA : g_ag L_m_X1_extend (g_n X) (g_T X)) (F_m_X1_noteRow : g_fit rm_m_X1_noteRow rm 3 = true) (F_m_X4_whoAges : g_fit rm_m_X4_whoAges rm 2 = true) (F_m_X10_holds : g_fit rm_m_X10_holds rm 2 = true) (F_m_X10_older : g_fit rm_m_X10_older rm 1 = true) (F_m_X7_drumAfter : g_fit rm_m_X7_drumAfter rm 4 = true) (F_m_X7_drawsAfter : g_fit rm_m_X7_drawsAfter rm 4 = true) (F_rec : g_fit rmc rm 15 = true) (rc : Int32 → Int32 → Int32 → Int32 → g_St → Option (g_St)) (hrc : ∀ (l : Launch) (E : g_E) (n : Nat) (T : Nat → g_Sh) (_ : g_ag L_m_X1_extend n T) (x3 : Int32) (x4 : Int32) (x5 : Int32) (x6 : Int32) (σ : g_St) (a : g_St) (_ : rc x3 x4 x5 x6 σ = some a), Met l yX1_extend wsX1_extend rmc (g_Pc E n T [.ref (E.2.1 + 69), .ref (E.2.1 + 13), .ref (E.2.1 + 16), .int x3, .int x4, .int x5, .int x6] σ) (g_Qv E n T a) 0 0 (g_A E)) (N : Nat) : ∀ (fu : Nat) (x3 : Int32) (x4 : Int32) (x5 : Int32) (x6 : Int32) (x7 : Int32) (σ : g_St), G X 33 [(0, .ref (g_b X + 69)), (1, .ref (g_b X + 13)), (2, .ref (g_b X + 16)), (3, .int x3), (4, .int x4), (5, .int x5), (6, .int x6), (7, .int x7)] [] σ (m_X1_extend_33 rc N fu x3 x4 x5 x6 x7 σ) := by
  have t13 := g_ag_at hA (c := 13) rfl tc13
  have t16 := g_ag_at hA (c := 16) rfl tc16
  have t69 := g_ag_at hA (c := 69) rfl tc69
  have t70 := g_ag_at hA (c := 70) rfl tc70
  have t71 := g_ag_at hA (c := 71) rfl tc71
  intro fu
  induction fu with
  | zero => intro x3 x4 x5 x6 x7 σ; exact G_none
  | succ fu ih =>
    intro x3 x4 x5 x6 x7 σ
    unfold m_X1_extend_33
    refine G_iload C dX1_extend_33 7 rfl ?_
    refine G_aload_n C dX1_extend_35 rfl 1 rfl ?_
    refine G_getI C f_X1_extend_76 t13 rfl dX1_extend_36 ?_
    refine G_icmp_ge C dX1_extend_39 (tgt := 213) (by decide) (fun c1 => ?_) (fun c1 => ?_)
    · exact G_vret C q dX1_extend_213
    · refine G_aload_n C dX1_extend_42 rfl 2 rfl ?_
      refine G_iload C dX1_extend_43 7 rfl ?_
      refine G_callI (rest := []) (fun a ha => g_runV C (nargs := 1) (As := [.int x7]) (rest := []) gX1_extend_X4_whoAges rfl (by decide +kernel) F_m_X4_whoAges t16 rfl rfl rfl rfl dX1_extend_45 (k_m_X4_whoAges X.1.2.1 X.2.1 (g_n X) (g_T X) (g_ag_sub hA (by decide +kernel)) x7 σ a ha)) (fun q2 => ?_)
      refine G_istore C dX1_extend_48 rfl (lv' := [(8, .int q2.1), (0, .ref (g_b X + 69)), (1, .ref (g_b X + 13)), (2, .ref (g_b X + 16)), (3, .int x3), (4, .int x4), (5, .int x5), (6, .int x6), (7, .int x7)]) rfl ?_
      refine G_iload C dX1_extend_50 5 rfl ?_
      refine G_iload C dX1_extend_52 8 rfl ?_
      refine G_callI (rest := []) (fun a ha => g_runSN C (nargs := 2) (As := [.int x4, .int x7]) (rest := []) (host := "BirthdayLot") gX1_extend_X10_holds_n59 rfl n_X1_extend_59 w_X1_extend_59 (by decide +kernel) F_m_X10_holds rfl rfl dX1_extend_54 (k_m_X10_holds X.1.2.1 X.2.1 (g_n X) (g_T X) (g_ag_sub hA (by decide +kernel)) x4 x7 q2.2 a ha)) (fun q3 => ?_)
      refine G_if_eq C dX1_extend_57 (tgt := 207) (by decide) (fun c4 => ?_) (fun c4 => ?_)
      · exact G_sub (w_m_X1_extend_207 C q hA F_m_X1_noteRow F_m_X4_whoAges F_m_X10_holds F_m_X10_older F_m_X7_drumAfter F_m_X7_drawsAfter F_rec rc hrc (m_X1_extend_33 rc N fu) ih N x3 x4 x5 x6 x7 q3.2) [1, 2, 3, 4, 5, 6, 7, 8] rfl
      · refine G_iload C dX1_extend_60 0 rfl ?_
        refine G_if_lt C dX1_extend_62 (tgt := 207) (by decide) (fun c5 => ?_) (fun c5 => ?_)
        · exact G_sub (w_m_X1_extend_207 C q hA F_m_X1_noteRow F_m_X4_whoAges F_m_X10_holds F_m_X10_older F_m_X7_drumAfter F_m_X7_drawsAfter F_rec rc hrc (m_X1_extend_33 rc N fu) ih N x3 x4 x5 x6 x7 q3.2) [1, 2, 3, 4, 5, 6, 7, 8] rfl
        · refine G_iload C dX1_extend_65 0 rfl ?_
          refine G_bipush C dX1_extend_67 (v := 6) (by decide +kernel) ?_
          refine G_icmp_lt C dX1_extend_69 (tgt := 75) (by decide) (fun c6 => ?_) (fun c6 => ?_)
          · refine G_aload_n C dX1_extend_75 rfl 1 rfl ?_
            refine G_getR C f_X1_extend_15 t69 rfl dX1_extend_76 ?_
            refine G_iload C dX1_extend_79 0 rfl ?_
            refine G_chk (fun h7 => ?_)
            refine G_ald C t71 h7 dX1_extend_81 ?_
            refine G_lti (fun v8 => ?_)
            refine G_istore C dX1_extend_82 rfl (lv' := [(9, .int v8), (8, .int q2.1), (0, .ref (g_b X + 69)), (1, .ref (g_b X + 13)), (2, .ref (g_b X + 16)), (3, .int x3), (4, .int x4), (5, .int x5), (6, .int x6), (7, .int x7)]) rfl ?_
            refine G_iload C dX1_extend_84 0 rfl ?_
            refine G_callI (rest := []) (fun a ha => g_runSN C (nargs := 1) (As := [.int v8]) (rest := []) (host := "BirthdayLot") gX1_extend_X10_older_n83 rfl n_X1_extend_83 w_X1_extend_83 (by decide +kernel) F_m_X10_older rfl rfl dX1_extend_86 (k_m_X10_older X.1.2.1 X.2.1 (g_n X) (g_T X) (g_ag_sub hA (by decide +kernel)) v8 q3.2 a ha)) (fun q9 => ?_)
            refine G_istore C dX1_extend_89 rfl (lv' := [(10, .int q9.1), (9, .int v8), (8, .int q2.1), (0, .ref (g_b X + 69)), (1, .ref (g_b X + 13)), (2, .ref (g_b X + 16)), (3, .int x3), (4, .int x4), (5, .int x5), (6, .int x6), (7, .int x7)]) rfl ?_
            refine G_aload_n C dX1_extend_91 rfl 3 rfl ?_
            refine G_getI C f_X1_extend_24 t69 rfl dX1_extend_92 ?_
            refine G_iload C dX1_extend_95 2 rfl ?_
            refine G_callI (rest := []) (fun a ha => g_runSN C (nargs := 2) (As := [.int (q9.2.1 69 4), .int q2.1]) (rest := []) (host := "BirthdayLot") gX1_extend_X10_holds_n59 rfl n_X1_extend_59 w_X1_extend_59 (by decide +kernel) F_m_X10_holds rfl rfl dX1_extend_97 (k_m_X10_holds X.1.2.1 X.2.1 (g_n X) (g_T X) (g_ag_sub hA (by decide +kernel)) (q9.2.1 69 4) q2.1 q9.2 a ha)) (fun q10 => ?_)
            refine G_istore C dX1_extend_100 rfl (lv' := [(11, .int q10.1), (10, .int q9.1), (9, .int v8), (8, .int q2.1), (0, .ref (g_b X + 69)), (1, .ref (g_b X + 13)), (2, .ref (g_b X + 16)), (3, .int x3), (4, .int x4), (5, .int x5), (6, .int x6), (7, .int x7)]) rfl ?_
            refine G_iload C dX1_extend_102 0 rfl ?_
            refine G_if_eq C dX1_extend_104 (tgt := 122) (by decide) (fun c11 => ?_) (fun c11 => ?_)
            · exact G_sub (w_m_X1_extend_122 C q hA F_m_X1_noteRow F_m_X4_whoAges F_m_X10_holds F_m_X10_older F_m_X7_drumAfter F_m_X7_drawsAfter F_rec rc hrc (m_X1_extend_33 rc N fu) ih N x3 x4 x5 x6 x7 q2.1 v8 q9.1 q10.1 q10.2) [4, 5, 6, 7, 8, 9, 10, 11, 3, 2, 1, 0] rfl
            · refine G_iload C dX1_extend_107 1 rfl ?_
              refine G_aload_n C dX1_extend_109 rfl 4 rfl ?_
              refine G_getR C f_X1_extend_9 t69 rfl dX1_extend_110 ?_
              refine G_iload C dX1_extend_113 3 rfl ?_
              refine G_chk (fun h12 => ?_)
              refine G_ald C t70 h12 dX1_extend_115 ?_
              refine G_icmp_le C dX1_extend_116 (tgt := 122) (by decide) (fun c13 => ?_) (fun c13 => ?_)
              · exact G_sub (w_m_X1_extend_122 C q hA F_m_X1_noteRow F_m_X4_whoAges F_m_X10_holds F_m_X10_older F_m_X7_drumAfter F_m_X7_drawsAfter F_rec rc hrc (m_X1_extend_33 rc N fu) ih N x3 x4 x5 x6 x7 q2.1 v8 q9.1 q10.1 q10.2) [4, 5, 6, 7, 8, 9, 10, 11, 3, 2, 1, 0] rfl
              · refine G_goto C dX1_extend_119 (tgt := 207) (by decide) ?_
                exact G_sub (w_m_X1_extend_207 C q hA F_m_X1_noteRow F_m_X4_whoAges F_m_X10_holds F_m_X10_older F_m_X7_drumAfter F_m_X7_drawsAfter F_rec rc hrc (m_X1_extend_33 rc N fu) ih N x3 x4 x5 x6 x7 q10.2) [4, 5, 6, 7, 8, 9, 10, 11] rfl
          · refine G_goto C dX1_extend_72 (tgt := 207) (by decide) ?_
            exact G_sub (w_m_X1_extend_207 C q hA F_m_X1_noteRow F_m_X4_whoAges F_m_X10_holds F_m_X10_older F_m_X7_drumAfter F_m_X7_drawsAfter F_rec rc hrc (m_X1_extend_33 rc N fu) ih N x3 x4 x5 x6 x7 q3.2) [1, 2, 3, 4, 5, 6, 7, 8] rfl
set_option maxHeartbeats 4000000 in
set_option maxRecDepth 100000 in
theorem w_m_X1_extend_0 {rm rmc : Room} {X : g_X (g_St)} (C : g_C X cX1_extend RX1 wsX1_extend rm 15) (q : g_qV X) (hA : g_ag L_m_X1_extend (g_n X) (g_T X)) (F_m_X1_noteRow : g_fit rm_m_X1_noteRow rm 3 = true) (F_m_X4_whoAges : g_fit rm_m_X4_whoAges rm 2 = true) (F_m_X10_holds : g_fit rm_m_X10_holds rm 2 = true) (F_m_X10_older : g_fit rm_m_X10_older rm 1 = true) (F_m_X7_drumAfter : g_fit rm_m_X7_drumAfter rm 4 = true) (F_m_X7_drawsAfter : g_fit rm_m_X7_drawsAfter rm 4 = true) (F_rec : g_fit rmc rm 15 = true) (rc : Int32 → Int32 → Int32 → Int32 → g_St → Option (g_St)) (hrc : ∀ (l : Launch) (E : g_E) (n : Nat) (T : Nat → g_Sh) (_ : g_ag L_m_X1_extend n T) (x3 : Int32) (x4 : Int32) (x5 : Int32) (x6 : Int32) (σ : g_St) (a : g_St) (_ : rc x3 x4 x5 x6 σ = some a), Met l yX1_extend wsX1_extend rmc (g_Pc E n T [.ref (E.2.1 + 69), .ref (E.2.1 + 13), .ref (E.2.1 + 16), .int x3, .int x4, .int x5, .int x6] σ) (g_Qv E n T a) 0 0 (g_A E)) (N : Nat) (x3 : Int32) (x4 : Int32) (x5 : Int32) (x6 : Int32) (σ : g_St) : G X 0 [(0, .ref (g_b X + 69)), (1, .ref (g_b X + 13)), (2, .ref (g_b X + 16)), (3, .int x3), (4, .int x4), (5, .int x5), (6, .int x6)] [] σ (m_X1_extend_0 rc N x3 x4 x5 x6 σ) := by
  have t69 := g_ag_at hA (c := 69) rfl tc69
  unfold m_X1_extend_0
  refine G_iload C dX1_extend_0 6 rfl ?_
  refine G_aload_n C dX1_extend_2 rfl 0 rfl ?_
  refine G_getI C f_X1_extend_34 t69 rfl dX1_extend_3 ?_
  refine G_iload_n C dX1_extend_6 rfl 3 rfl ?_
  refine G_isub C dX1_extend_7 ?_
  refine G_icmp_le C dX1_extend_8 (tgt := 12) (by decide) (fun c1 => ?_) (fun c1 => ?_)
  · refine G_iload_n C dX1_extend_12 rfl 3 rfl ?_
    refine G_aload_n C dX1_extend_13 rfl 0 rfl ?_
    refine G_getI C f_X1_extend_34 t69 rfl dX1_extend_14 ?_
    refine G_icmp_ge C dX1_extend_17 (tgt := 25) (by decide) (fun c2 => ?_) (fun c2 => ?_)
    · exact G_sub (w_m_X1_extend_25 C q hA F_m_X1_noteRow F_m_X4_whoAges F_m_X10_holds F_m_X10_older F_m_X7_drumAfter F_m_X7_drawsAfter F_rec rc hrc N σ) [0] rfl
    · refine G_iload_n C dX1_extend_20 rfl 3 rfl ?_
      refine G_iconst C dX1_extend_21 (v := 4) (by decide +kernel) ?_
      refine G_icmp_lt C dX1_extend_22 (tgt := 30) (by decide) (fun c3 => ?_) (fun c3 => ?_)
      · refine G_iconst C dX1_extend_30 (v := 0) (by decide +kernel) ?_
        refine G_istore C dX1_extend_31 rfl (lv' := [(7, .int (0 : Int32)), (0, .ref (g_b X + 69)), (1, .ref (g_b X + 13)), (2, .ref (g_b X + 16)), (3, .int x3), (4, .int x4), (5, .int x5), (6, .int x6)]) rfl ?_
        exact G_sub (w_m_X1_extend_33 C q hA F_m_X1_noteRow F_m_X4_whoAges F_m_X10_holds F_m_X10_older F_m_X7_drumAfter F_m_X7_drawsAfter F_rec rc hrc N N x3 x4 x5 x6 (0 : Int32) σ) [1, 2, 3, 4, 5, 6, 7, 0] rfl
      · exact G_sub (w_m_X1_extend_25 C q hA F_m_X1_noteRow F_m_X4_whoAges F_m_X10_holds F_m_X10_older F_m_X7_drumAfter F_m_X7_drawsAfter F_rec rc hrc N σ) [0] rfl
  · exact G_vret C q dX1_extend_11
theorem k_m_X1_extend (k : Nat) : ∀ (l : Launch) (E : g_E) (n : Nat) (T : Nat → g_Sh) (_ : g_ag L_m_X1_extend n T) (N : Nat) (x3 : Int32) (x4 : Int32) (x5 : Int32) (x6 : Int32) (σ : g_St) (a : g_St) (_ : m_X1_extend N k x3 x4 x5 x6 σ = some a), Met l yX1_extend wsX1_extend (rm_m_X1_extend k) (g_Pc E n T [.ref (E.2.1 + 69), .ref (E.2.1 + 13), .ref (E.2.1 + 16), .int x3, .int x4, .int x5, .int x6] σ) (g_Qv E n T a) 0 0 (g_A E) := by
  induction k with
  | zero => intro l E n T hA N x3 x4 x5 x6 σ a h; cases h
  | succ fu ih =>
    intro l E n T hA N x3 x4 x5 x6 σ a h
    exact g_metV (by decide +kernel) rfl rfl (Nat.le_of_ble_eq_true rfl) (fun M Qf C q => by rw [← h]; exact w_m_X1_extend_0 C q hA (g_fit_mk rfl rfl (by show 1 + 1 ≤ 3 + (fu + 1); omega) (by show 8 + (3 + 11) + 60 ≤ 82 + 34 * (fu + 1); omega)) (g_fit_mk rfl rfl (by show 0 + 1 ≤ 3 + (fu + 1); omega) (by show 8 + (2 + 11) + 0 ≤ 82 + 34 * (fu + 1); omega)) (g_fit_mk rfl rfl (by show 0 + 1 ≤ 3 + (fu + 1); omega) (by show 8 + (2 + 11) + 0 ≤ 82 + 34 * (fu + 1); omega)) (g_fit_mk rfl rfl (by show 1 + 1 ≤ 3 + (fu + 1); omega) (by show 8 + (1 + 11) + 30 ≤ 82 + 34 * (fu + 1); omega)) (g_fit_mk rfl rfl (by show 2 + 1 ≤ 3 + (fu + 1); omega) (by show 8 + (4 + 11) + 45 ≤ 82 + 34 * (fu + 1); omega)) (g_fit_mk rfl rfl (by show 2 + 1 ≤ 3 + (fu + 1); omega) (by show 8 + (4 + 11) + 45 ≤ 82 + 34 * (fu + 1); omega)) (g_fit_mk rfl rfl (by show 3 + fu + 1 ≤ 3 + (fu + 1); omega) (by show 8 + (15 + 11) + (82 + 34 * fu) ≤ 82 + 34 * (fu + 1); omega)) (m_X1_extend N fu) (fun l E n T hA x3 x4 x5 x6 σ a h => ih l E n T hA N x3 x4 x5 x6 σ a h) N x3 x4 x5 x6 σ)
def L_m_X1_search : List Nat := [13, 16, 17, 19, 20, 69, 70, 71, 72, 73]
abbrev rm_m_X1_search : Room := { frames := 9, cells := 0, slots := 0, locals := 286 }
theorem f_X1_search_15 : g_Fld wsX1_search RX1 15 1 1 := ⟨RX1, TX1, 8, rfl, by decide +kernel, by decide, by decide +kernel⟩
theorem f_X1_search_24 : g_Fld wsX1_search RX1 24 1 4 := ⟨RX1, TX1, 8, rfl, by decide +kernel, by decide, by decide +kernel⟩
theorem f_X1_search_37 : g_Fld wsX1_search RX1 37 4 0 := ⟨RX4, TX4, 8, rfl, by decide +kernel, by decide, by decide +kernel⟩
theorem f_X1_search_58 : g_Fld wsX1_search RX1 58 7 2 := ⟨RX7, TX7, 6, rfl, by decide +kernel, by decide, by decide +kernel⟩
theorem f_X1_search_63 : g_Fld wsX1_search RX1 63 4 5 := ⟨RX4, TX4, 8, rfl, by decide +kernel, by decide, by decide +kernel⟩
theorem f_X1_search_66 : g_Fld wsX1_search RX1 66 4 7 := ⟨RX4, TX4, 8, rfl, by decide +kernel, by decide, by decide +kernel⟩
theorem f_X1_search_9 : g_Fld wsX1_search RX1 9 1 0 := ⟨RX1, TX1, 8, rfl, by decide +kernel, by decide, by decide +kernel⟩
theorem p_X1_search_28 : g_FldP wsX1_search RX1 28 1 5 .int := ⟨RX1, TX1, 8, tyX1, rfl, by decide +kernel, by decide, by decide +kernel, tyX1_ok, nmX1, rfl, by decide +kernel⟩
theorem p_X1_search_31 : g_FldP wsX1_search RX1 31 1 6 .int := ⟨RX1, TX1, 8, tyX1, rfl, by decide +kernel, by decide, by decide +kernel, tyX1_ok, nmX1, rfl, by decide +kernel⟩
theorem p_X1_search_34 : g_FldP wsX1_search RX1 34 1 7 .int := ⟨RX1, TX1, 8, tyX1, rfl, by decide +kernel, by decide, by decide +kernel, tyX1_ok, nmX1, rfl, by decide +kernel⟩
theorem n_X1_search_59 : Cond.methodLinkNest RX1 59 yX10_holds "BirthdayLot" ∈ g_nest := by decide +kernel
theorem w_X1_search_40 : g_cw wsX1_search RX1 40 := ⟨by decide +kernel, by decide +kernel, by decide +kernel, by decide +kernel⟩
theorem w_X1_search_52 : g_mw wsX1_search RX1 52 Lib.Math.min.name Lib.Math.min.code 2 := ⟨by decide +kernel, by decide +kernel, by decide +kernel, by decide +kernel⟩
theorem w_X1_search_59 : Cond.static yX10_holds ∈ wsX1_search ∧ Cond.initialized (MethodName.cls yX10_holds) ∈ wsX1_search := ⟨by decide +kernel, by decide +kernel⟩
set_option maxHeartbeats 4000000 in
set_option maxRecDepth 100000 in
theorem w_m_X1_search_105 {X : g_X (g_St)} (C : g_C X cX1_search RX1 wsX1_search rm_m_X1_search 6) (q : g_qV X) (hA : g_ag L_m_X1_search (g_n X) (g_T X)) (k43 : Int32 → Int32 → g_St → Option (g_St)) (hk43 : ∀ (x4 : Int32) (x5 : Int32) (σ : g_St), G X 43 [(0, .ref (g_b X + 69)), (1, .ref (g_b X + 13)), (2, .ref (g_b X + 16)), (4, .int x4), (5, .int x5)] [] σ (k43 x4 x5 σ)) (N : Nat) (x4 : Int32) (x5 : Int32) (σ : g_St) : G X 105 [(0, .ref (g_b X + 69)), (1, .ref (g_b X + 13)), (2, .ref (g_b X + 16)), (4, .int x4), (5, .int x5)] [] σ (m_X1_search_105 k43 N x4 x5 σ) := by
  unfold m_X1_search_105
  refine G_iinc C dX1_search_105 4 rfl (v := (x5 + (1 : Int32))) (by rfl) rfl (lv' := [(5, .int (x5 + (1 : Int32))), (0, .ref (g_b X + 69)), (1, .ref (g_b X + 13)), (2, .ref (g_b X + 16)), (4, .int x4)]) rfl ?_
  refine G_ltv (fun v => [(5, .int v), (0, .ref (g_b X + 69)), (1, .ref (g_b X + 13)), (2, .ref (g_b X + 16)), (4, .int x4)]) (fun v1 => ?_)
  refine G_goto C dX1_search_108 (tgt := 43) (by decide) ?_
  exact G_sub (hk43 x4 v1 σ) [1, 2, 3, 4, 0] rfl
set_option maxHeartbeats 4000000 in
set_option maxRecDepth 100000 in
theorem w_m_X1_search_43 {X : g_X (g_St)} (C : g_C X cX1_search RX1 wsX1_search rm_m_X1_search 6) (q : g_qV X) (hA : g_ag L_m_X1_search (g_n X) (g_T X)) (N : Nat) : ∀ (fu : Nat) (x4 : Int32) (x5 : Int32) (σ : g_St), G X 43 [(0, .ref (g_b X + 69)), (1, .ref (g_b X + 13)), (2, .ref (g_b X + 16)), (4, .int x4), (5, .int x5)] [] σ (m_X1_search_43 N fu x4 x5 σ) := by
  have t13 := g_ag_at hA (c := 13) rfl tc13
  have t16 := g_ag_at hA (c := 16) rfl tc16
  have t69 := g_ag_at hA (c := 69) rfl tc69
  have t70 := g_ag_at hA (c := 70) rfl tc70
  have t71 := g_ag_at hA (c := 71) rfl tc71
  intro fu
  induction fu with
  | zero => intro x4 x5 σ; exact G_none
  | succ fu ih =>
    intro x4 x5 σ
    unfold m_X1_search_43
    refine G_iload C dX1_search_43 4 rfl ?_
    refine G_aload_n C dX1_search_45 rfl 1 rfl ?_
    refine G_getI C f_X1_search_58 t13 rfl dX1_search_46 ?_
    refine G_icmp_ge C dX1_search_49 (tgt := 111) (by decide) (fun c1 => ?_) (fun c1 => ?_)
    · refine G_aload_n C dX1_search_111 rfl 0 rfl ?_
      refine G_aload_n C dX1_search_112 rfl 1 rfl ?_
      refine G_aload_n C dX1_search_113 rfl 2 rfl ?_
      refine G_iconst C dX1_search_114 (v := 0) (by decide +kernel) ?_
      refine G_aload_n C dX1_search_115 rfl 2 rfl ?_
      refine G_getI C f_X1_search_63 t16 rfl dX1_search_116 ?_
      refine G_aload_n C dX1_search_119 rfl 2 rfl ?_
      refine G_getI C f_X1_search_66 t16 rfl dX1_search_120 ?_
      refine G_iload C dX1_search_123 3 rfl ?_
      refine G_callV (rest := []) (fun a ha => g_runS C (nargs := 7) (As := [.ref (g_b X + 69), .ref (g_b X + 13), .ref (g_b X + 16), .int (0 : Int32), .int (σ.1 16 5), .int (σ.1 16 7), .int x4]) (rest := []) gX1_search_X1_extend rfl (by decide +kernel) rfl rfl rfl dX1_search_125 (k_m_X1_extend 5 X.1.2.1 X.2.1 (g_n X) (g_T X) (g_ag_sub hA (by decide +kernel)) N (0 : Int32) (σ.1 16 5) (σ.1 16 7) x4 σ a ha)) (fun σ2 => ?_)
      exact G_vret C q dX1_search_128
    · refine G_aload_n C dX1_search_52 rfl 0 rfl ?_
      refine G_getI C f_X1_search_24 t69 rfl dX1_search_53 ?_
      refine G_iload C dX1_search_56 4 rfl ?_
      refine G_callI (rest := []) (fun a ha => g_runSN C (nargs := 2) (As := [.int (σ.1 69 4), .int x5]) (rest := []) (host := "BirthdayLot") gX1_search_X10_holds_n59 rfl n_X1_search_59 w_X1_search_59 (by decide +kernel) rfl rfl rfl dX1_search_58 (k_m_X10_holds X.1.2.1 X.2.1 (g_n X) (g_T X) (g_ag_sub hA (by decide +kernel)) (σ.1 69 4) x5 σ a ha)) (fun q3 => ?_)
      refine G_if_ne C dX1_search_61 (tgt := 67) (by decide) (fun c4 => ?_) (fun c4 => ?_)
      · refine G_goto C dX1_search_64 (tgt := 105) (by decide) ?_
        exact w_m_X1_search_105 C q hA (m_X1_search_43 N fu) ih N x4 x5 q3.2
      · refine G_aload_n C dX1_search_67 rfl 0 rfl ?_
        refine G_getR C f_X1_search_15 t69 rfl dX1_search_68 ?_
        refine G_iload C dX1_search_71 4 rfl ?_
        refine G_chk (fun h5 => ?_)
        refine G_ald C t71 h5 dX1_search_73 ?_
        refine G_aload_n C dX1_search_74 rfl 0 rfl ?_
        refine G_getR C f_X1_search_9 t69 rfl dX1_search_75 ?_
        refine G_iload C dX1_search_78 4 rfl ?_
        refine G_chk (fun h6 => ?_)
        refine G_ald C t70 h6 dX1_search_80 ?_
        refine G_icmp_le C dX1_search_81 (tgt := 85) (by decide) (fun c7 => ?_) (fun c7 => ?_)
        · refine G_iload C dX1_search_85 3 rfl ?_
          refine G_aload_n C dX1_search_87 rfl 0 rfl ?_
          refine G_getR C f_X1_search_9 t69 rfl dX1_search_88 ?_
          refine G_iload C dX1_search_91 4 rfl ?_
          refine G_chk (fun h8 => ?_)
          refine G_ald C t70 h8 dX1_search_93 ?_
          refine G_aload_n C dX1_search_94 rfl 0 rfl ?_
          refine G_getR C f_X1_search_15 t69 rfl dX1_search_95 ?_
          refine G_iload C dX1_search_98 4 rfl ?_
          refine G_chk (fun h9 => ?_)
          refine G_ald C t71 h9 dX1_search_100 ?_
          refine G_isub C dX1_search_101 ?_
          refine G_iadd C dX1_search_102 ?_
          refine G_lti (fun v10 => ?_)
          refine G_istore C dX1_search_103 rfl (lv' := [(4, .int v10), (0, .ref (g_b X + 69)), (1, .ref (g_b X + 13)), (2, .ref (g_b X + 16)), (5, .int x5)]) rfl ?_
          exact G_sub (w_m_X1_search_105 C q hA (m_X1_search_43 N fu) ih N v10 x5 q3.2) [1, 2, 3, 0, 4] rfl
        · exact G_vret C q dX1_search_84
set_option maxHeartbeats 4000000 in
set_option maxRecDepth 100000 in
theorem w_m_X1_search_0 {X : g_X (g_St)} (C : g_C X cX1_search RX1 wsX1_search rm_m_X1_search 6) (q : g_qV X) (hA : g_ag L_m_X1_search (g_n X) (g_T X)) (N : Nat) (x3 : Int32) (σ : g_St) : G X 0 [(0, .ref (g_b X + 69)), (1, .ref (g_b X + 13)), (2, .ref (g_b X + 16)), (3, .int x3)] [] σ (m_X1_search N x3 σ) := by
  have t13 := g_ag_at hA (c := 13) rfl tc13
  have t16 := g_ag_at hA (c := 16) rfl tc16
  have t17 := g_ag_at hA (c := 17) rfl tc17
  have t69 := g_ag_at hA (c := 69) rfl tc69
  have t71 := g_ag_at hA (c := 71) rfl tc71
  unfold m_X1_search
  refine G_aload_n C dX1_search_0 rfl 2 rfl ?_
  refine G_getR C f_X1_search_37 t16 rfl dX1_search_1 ?_
  refine G_iconst C dX1_search_4 (v := 0) (by decide +kernel) ?_
  refine G_aload_n C dX1_search_5 rfl 0 rfl ?_
  refine G_getR C f_X1_search_15 t69 rfl dX1_search_6 ?_
  refine G_iconst C dX1_search_9 (v := 0) (by decide +kernel) ?_
  refine G_bipush C dX1_search_10 (v := 6) (by decide +kernel) ?_
  refine G_copyk C w_X1_search_40 rfl t17 t71 (by decide +kernel) (ks := 0) (kd := 0) (kn := 6) rfl rfl rfl dX1_search_12 ?_
  refine G_lts (fun σ1 => ?_)
  refine G_aload_n C dX1_search_15 rfl 0 rfl ?_
  refine G_iconst C dX1_search_16 (v := 0) (by decide +kernel) ?_
  refine G_putI C p_X1_search_28 t69 rfl rfl rfl dX1_search_17 ?_
  refine G_lts (fun σ2 => ?_)
  refine G_aload_n C dX1_search_20 rfl 0 rfl ?_
  refine G_aload_n C dX1_search_21 rfl 1 rfl ?_
  refine G_callI (rest := [.ref (g_b X + 69)]) (fun a ha => g_runV C (nargs := 0) (As := []) (rest := [.ref (g_b X + 69)]) gX1_search_X7_everyTicket rfl (by decide +kernel) rfl t13 rfl rfl rfl rfl dX1_search_22 (k_m_X7_everyTicket X.1.2.1 X.2.1 (g_n X) (g_T X) (g_ag_sub hA (by decide +kernel)) σ2 a ha)) (fun q3 => ?_)
  refine G_putI C p_X1_search_31 t69 rfl rfl rfl dX1_search_25 ?_
  refine G_lts (fun σ4 => ?_)
  refine G_aload_n C dX1_search_28 rfl 0 rfl ?_
  refine G_iload_n C dX1_search_29 rfl 3 rfl ?_
  refine G_iconst C dX1_search_30 (v := 4) (by decide +kernel) ?_
  refine G_mmin C w_X1_search_52 rfl dX1_search_31 ?_
  refine G_putI C p_X1_search_34 t69 rfl rfl rfl dX1_search_34 ?_
  refine G_lts (fun σ5 => ?_)
  refine G_iconst C dX1_search_37 (v := 0) (by decide +kernel) ?_
  refine G_istore C dX1_search_38 rfl (lv' := [(4, .int (0 : Int32)), (0, .ref (g_b X + 69)), (1, .ref (g_b X + 13)), (2, .ref (g_b X + 16)), (3, .int x3)]) rfl ?_
  refine G_iconst C dX1_search_40 (v := 0) (by decide +kernel) ?_
  refine G_istore C dX1_search_41 rfl (lv' := [(5, .int (0 : Int32)), (4, .int (0 : Int32)), (0, .ref (g_b X + 69)), (1, .ref (g_b X + 13)), (2, .ref (g_b X + 16)), (3, .int x3)]) rfl ?_
  exact G_sub (w_m_X1_search_43 C q hA N N (0 : Int32) (0 : Int32) σ5) [2, 3, 4, 1, 0] rfl
theorem k_m_X1_search (l : Launch) (E : g_E) (n : Nat) (T : Nat → g_Sh) (hA : g_ag L_m_X1_search n T) (N : Nat) (x3 : Int32) (σ : g_St) (a : g_St) (h : m_X1_search N x3 σ = some a) : Met l yX1_search wsX1_search rm_m_X1_search (g_Pc E n T [.ref (E.2.1 + 69), .ref (E.2.1 + 13), .ref (E.2.1 + 16), .int x3] σ) (g_Qv E n T a) 0 0 (g_A E) :=
  g_metV (by decide +kernel) rfl rfl (Nat.le_of_ble_eq_true rfl) (fun M Qf C q => by rw [← h]; exact w_m_X1_search_0 C q hA N x3 σ)
def L_m_X1_firstAt : List Nat := [69, 73]
abbrev rm_m_X1_firstAt : Room := { frames := 0, cells := 0, slots := 0, locals := 0 }
theorem f_X1_firstAt_21 : g_Fld wsX1_firstAt RX1 21 1 3 := ⟨RX1, TX1, 8, rfl, by decide +kernel, by decide, by decide +kernel⟩
theorem f_X1_firstAt_28 : g_Fld wsX1_firstAt RX1 28 1 5 := ⟨RX1, TX1, 8, rfl, by decide +kernel, by decide, by decide +kernel⟩
theorem f_X1_firstAt_34 : g_Fld wsX1_firstAt RX1 34 1 7 := ⟨RX1, TX1, 8, rfl, by decide +kernel, by decide, by decide +kernel⟩
set_option maxHeartbeats 4000000 in
set_option maxRecDepth 100000 in
theorem w_m_X1_firstAt_0 {X : g_X (Int32 × g_St)} (C : g_C X cX1_firstAt RX1 wsX1_firstAt rm_m_X1_firstAt 2) (q : g_qI X) (hA : g_ag L_m_X1_firstAt (g_n X) (g_T X)) (x1 : Int32) (σ : g_St) : G X 0 [(0, .ref (g_b X + 69)), (1, .int x1)] [] σ (m_X1_firstAt x1 σ) := by
  have t69 := g_ag_at hA (c := 69) rfl tc69
  have t73 := g_ag_at hA (c := 73) rfl tc73
  unfold m_X1_firstAt
  refine G_aload_n C dX1_firstAt_0 rfl 0 rfl ?_
  refine G_getI C f_X1_firstAt_28 t69 rfl dX1_firstAt_1 ?_
  refine G_if_eq C dX1_firstAt_4 (tgt := 19) (by decide) (fun c1 => ?_) (fun c1 => ?_)
  · refine G_iconst C dX1_firstAt_19 (v := -1) (by decide +kernel) ?_
    exact G_iret C q dX1_firstAt_20
  · refine G_iload_n C dX1_firstAt_7 rfl 1 rfl ?_
    refine G_if_lt C dX1_firstAt_8 (tgt := 19) (by decide) (fun c2 => ?_) (fun c2 => ?_)
    · refine G_iconst C dX1_firstAt_19 (v := -1) (by decide +kernel) ?_
      exact G_iret C q dX1_firstAt_20
    · refine G_iload_n C dX1_firstAt_11 rfl 1 rfl ?_
      refine G_aload_n C dX1_firstAt_12 rfl 0 rfl ?_
      refine G_getI C f_X1_firstAt_34 t69 rfl dX1_firstAt_13 ?_
      refine G_icmp_lt C dX1_firstAt_16 (tgt := 21) (by decide) (fun c3 => ?_) (fun c3 => ?_)
      · refine G_aload_n C dX1_firstAt_21 rfl 0 rfl ?_
        refine G_getR C f_X1_firstAt_21 t69 rfl dX1_firstAt_22 ?_
        refine G_iload_n C dX1_firstAt_25 rfl 1 rfl ?_
        refine G_chk (fun h4 => ?_)
        refine G_ald C t73 h4 dX1_firstAt_26 ?_
        exact G_iret C q dX1_firstAt_27
      · refine G_iconst C dX1_firstAt_19 (v := -1) (by decide +kernel) ?_
        exact G_iret C q dX1_firstAt_20
theorem k_m_X1_firstAt (l : Launch) (E : g_E) (n : Nat) (T : Nat → g_Sh) (hA : g_ag L_m_X1_firstAt n T) (x1 : Int32) (σ : g_St) (a : Int32 × g_St) (h : m_X1_firstAt x1 σ = some a) : Met l yX1_firstAt wsX1_firstAt rm_m_X1_firstAt (g_Pc E n T [.ref (E.2.1 + 69), .int x1] σ) (g_Qi E n T a) 0 0 (g_A E) :=
  g_metI (by decide +kernel) rfl rfl (Nat.le_of_ble_eq_true rfl) (fun M Qf C q => by rw [← h]; exact w_m_X1_firstAt_0 C q hA x1 σ)
def L_m_X7_weightOf : List Nat := [13, 14]
abbrev rm_m_X7_weightOf : Room := { frames := 1, cells := 0, slots := 0, locals := 21 }
theorem f_X7_weightOf_25 : g_Fld wsX7_weightOf RX7 25 7 3 := ⟨RX7, TX7, 6, rfl, by decide +kernel, by decide, by decide +kernel⟩
theorem f_X7_weightOf_9 : g_Fld wsX7_weightOf RX7 9 7 0 := ⟨RX7, TX7, 6, rfl, by decide +kernel, by decide, by decide +kernel⟩
theorem n_X7_weightOf_41 : Cond.methodLinkNest RX7 41 yX10_holds "BirthdayLot" ∈ g_nest := by decide +kernel
theorem w_X7_weightOf_41 : Cond.static yX10_holds ∈ wsX7_weightOf ∧ Cond.initialized (MethodName.cls yX10_holds) ∈ wsX7_weightOf := ⟨by decide +kernel, by decide +kernel⟩
set_option maxHeartbeats 4000000 in
set_option maxRecDepth 100000 in
theorem w_m_X7_weightOf_29 {X : g_X (Int32 × g_St)} (C : g_C X cX7_weightOf RX7 wsX7_weightOf rm_m_X7_weightOf 4) (q : g_qI X) (hA : g_ag L_m_X7_weightOf (g_n X) (g_T X)) (k4 : Int32 → Int32 → Int32 → g_St → Option (Int32 × g_St)) (hk4 : ∀ (x1 : Int32) (x2 : Int32) (x3 : Int32) (σ : g_St), G X 4 [(0, .ref (g_b X + 13)), (1, .int x1), (2, .int x2), (3, .int x3)] [] σ (k4 x1 x2 x3 σ)) (N : Nat) (x1 : Int32) (x2 : Int32) (x3 : Int32) (σ : g_St) : G X 29 [(0, .ref (g_b X + 13)), (1, .int x1), (2, .int x2), (3, .int x3)] [] σ (m_X7_weightOf_29 k4 N x1 x2 x3 σ) := by
  unfold m_X7_weightOf_29
  refine G_iinc C dX7_weightOf_29 3 rfl (v := (x3 + (1 : Int32))) (by rfl) rfl (lv' := [(3, .int (x3 + (1 : Int32))), (0, .ref (g_b X + 13)), (1, .int x1), (2, .int x2)]) rfl ?_
  refine G_ltv (fun v => [(3, .int v), (0, .ref (g_b X + 13)), (1, .int x1), (2, .int x2)]) (fun v1 => ?_)
  refine G_goto C dX7_weightOf_32 (tgt := 4) (by decide) ?_
  exact G_sub (hk4 x1 x2 v1 σ) [1, 2, 3, 0] rfl
set_option maxHeartbeats 4000000 in
set_option maxRecDepth 100000 in
theorem w_m_X7_weightOf_4 {X : g_X (Int32 × g_St)} (C : g_C X cX7_weightOf RX7 wsX7_weightOf rm_m_X7_weightOf 4) (q : g_qI X) (hA : g_ag L_m_X7_weightOf (g_n X) (g_T X)) (N : Nat) : ∀ (fu : Nat) (x1 : Int32) (x2 : Int32) (x3 : Int32) (σ : g_St), G X 4 [(0, .ref (g_b X + 13)), (1, .int x1), (2, .int x2), (3, .int x3)] [] σ (m_X7_weightOf_4 N fu x1 x2 x3 σ) := by
  have t13 := g_ag_at hA (c := 13) rfl tc13
  have t14 := g_ag_at hA (c := 14) rfl tc14
  intro fu
  induction fu with
  | zero => intro x1 x2 x3 σ; exact G_none
  | succ fu ih =>
    intro x1 x2 x3 σ
    unfold m_X7_weightOf_4
    refine G_iload_n C dX7_weightOf_4 rfl 3 rfl ?_
    refine G_aload_n C dX7_weightOf_5 rfl 0 rfl ?_
    refine G_getI C f_X7_weightOf_25 t13 rfl dX7_weightOf_6 ?_
    refine G_icmp_ge C dX7_weightOf_9 (tgt := 35) (by decide) (fun c1 => ?_) (fun c1 => ?_)
    · refine G_iload_n C dX7_weightOf_35 rfl 2 rfl ?_
      exact G_iret C q dX7_weightOf_36
    · refine G_iload_n C dX7_weightOf_12 rfl 1 rfl ?_
      refine G_iload_n C dX7_weightOf_13 rfl 3 rfl ?_
      refine G_callI (rest := []) (fun a ha => g_runSN C (nargs := 2) (As := [.int x1, .int x3]) (rest := []) (host := "BirthdayLot") gX7_weightOf_X10_holds_n41 rfl n_X7_weightOf_41 w_X7_weightOf_41 (by decide +kernel) rfl rfl rfl dX7_weightOf_14 (k_m_X10_holds X.1.2.1 X.2.1 (g_n X) (g_T X) (g_ag_sub hA (by decide +kernel)) x1 x3 σ a ha)) (fun q2 => ?_)
      refine G_if_eq C dX7_weightOf_17 (tgt := 29) (by decide) (fun c3 => ?_) (fun c3 => ?_)
      · exact w_m_X7_weightOf_29 C q hA (m_X7_weightOf_4 N fu) ih N x1 x2 x3 q2.2
      · refine G_iload_n C dX7_weightOf_20 rfl 2 rfl ?_
        refine G_aload_n C dX7_weightOf_21 rfl 0 rfl ?_
        refine G_getR C f_X7_weightOf_9 t13 rfl dX7_weightOf_22 ?_
        refine G_iload_n C dX7_weightOf_25 rfl 3 rfl ?_
        refine G_chk (fun h4 => ?_)
        refine G_ald C t14 h4 dX7_weightOf_26 ?_
        refine G_iadd C dX7_weightOf_27 ?_
        refine G_lti (fun v5 => ?_)
        refine G_istore_n C dX7_weightOf_28 rfl rfl (lv' := [(2, .int v5), (0, .ref (g_b X + 13)), (1, .int x1), (3, .int x3)]) rfl ?_
        exact G_sub (w_m_X7_weightOf_29 C q hA (m_X7_weightOf_4 N fu) ih N x1 v5 x3 q2.2) [1, 2, 0, 3] rfl
set_option maxHeartbeats 4000000 in
set_option maxRecDepth 100000 in
theorem w_m_X7_weightOf_0 {X : g_X (Int32 × g_St)} (C : g_C X cX7_weightOf RX7 wsX7_weightOf rm_m_X7_weightOf 4) (q : g_qI X) (hA : g_ag L_m_X7_weightOf (g_n X) (g_T X)) (N : Nat) (x1 : Int32) (σ : g_St) : G X 0 [(0, .ref (g_b X + 13)), (1, .int x1)] [] σ (m_X7_weightOf N x1 σ) := by
  unfold m_X7_weightOf
  refine G_iconst C dX7_weightOf_0 (v := 0) (by decide +kernel) ?_
  refine G_istore_n C dX7_weightOf_1 rfl rfl (lv' := [(2, .int (0 : Int32)), (0, .ref (g_b X + 13)), (1, .int x1)]) rfl ?_
  refine G_iconst C dX7_weightOf_2 (v := 0) (by decide +kernel) ?_
  refine G_istore_n C dX7_weightOf_3 rfl rfl (lv' := [(3, .int (0 : Int32)), (2, .int (0 : Int32)), (0, .ref (g_b X + 13)), (1, .int x1)]) rfl ?_
  exact G_sub (w_m_X7_weightOf_4 C q hA N N x1 (0 : Int32) (0 : Int32) σ) [2, 3, 1, 0] rfl
theorem k_m_X7_weightOf (l : Launch) (E : g_E) (n : Nat) (T : Nat → g_Sh) (hA : g_ag L_m_X7_weightOf n T) (N : Nat) (x1 : Int32) (σ : g_St) (a : Int32 × g_St) (h : m_X7_weightOf N x1 σ = some a) : Met l yX7_weightOf wsX7_weightOf rm_m_X7_weightOf (g_Pc E n T [.ref (E.2.1 + 13), .int x1] σ) (g_Qi E n T a) 0 0 (g_A E) :=
  g_metI (by decide +kernel) rfl rfl (Nat.le_of_ble_eq_true rfl) (fun M Qf C q => by rw [← h]; exact w_m_X7_weightOf_0 C q hA N x1 σ)
def L_m_X2_handOn : List Nat := [13, 14, 59, 60]
abbrev rm_m_X2_handOn : Room := { frames := 2, cells := 0, slots := 0, locals := 44 }
theorem f_X2_handOn_77 : g_Fld wsX2_handOn RX2 77 7 3 := ⟨RX7, TX7, 6, rfl, by decide +kernel, by decide, by decide +kernel⟩
theorem f_X2_handOn_84 : g_Fld wsX2_handOn RX2 84 7 0 := ⟨RX7, TX7, 6, rfl, by decide +kernel, by decide, by decide +kernel⟩
theorem f_X2_handOn_9 : g_Fld wsX2_handOn RX2 9 2 0 := ⟨RX2, TX2, 6, rfl, by decide +kernel, by decide, by decide +kernel⟩
theorem n_X2_handOn_80 : Cond.methodLinkNest RX2 80 yX10_holds "BirthdayLot" ∈ g_nest := by decide +kernel
theorem w_X2_handOn_80 : Cond.static yX10_holds ∈ wsX2_handOn ∧ Cond.initialized (MethodName.cls yX10_holds) ∈ wsX2_handOn := ⟨by decide +kernel, by decide +kernel⟩
set_option maxHeartbeats 4000000 in
set_option maxRecDepth 100000 in
theorem w_m_X2_handOn_67 {X : g_X (g_St)} (C : g_C X cX2_handOn RX2 wsX2_handOn rm_m_X2_handOn 5) (q : g_qV X) (hA : g_ag L_m_X2_handOn (g_n X) (g_T X)) (k15 : Int32 → Int32 → Int32 → g_St → Option (g_St)) (hk15 : ∀ (x2 : Int32) (x3 : Int32) (x4 : Int32) (σ : g_St), G X 15 [(0, .ref (g_b X + 59)), (1, .ref (g_b X + 13)), (2, .int x2), (3, .int x3), (4, .int x4)] [] σ (k15 x2 x3 x4 σ)) (N : Nat) (x2 : Int32) (x3 : Int32) (x4 : Int32) (σ : g_St) : G X 67 [(0, .ref (g_b X + 59)), (1, .ref (g_b X + 13)), (2, .int x2), (3, .int x3), (4, .int x4)] [] σ (m_X2_handOn_67 k15 N x2 x3 x4 σ) := by
  unfold m_X2_handOn_67
  refine G_iinc C dX2_handOn_67 4 rfl (v := (x4 + (1 : Int32))) (by rfl) rfl (lv' := [(4, .int (x4 + (1 : Int32))), (0, .ref (g_b X + 59)), (1, .ref (g_b X + 13)), (2, .int x2), (3, .int x3)]) rfl ?_
  refine G_ltv (fun v => [(4, .int v), (0, .ref (g_b X + 59)), (1, .ref (g_b X + 13)), (2, .int x2), (3, .int x3)]) (fun v1 => ?_)
  refine G_goto C dX2_handOn_70 (tgt := 15) (by decide) ?_
  exact G_sub (hk15 x2 x3 v1 σ) [1, 2, 3, 4, 0] rfl
set_option maxHeartbeats 4000000 in
set_option maxRecDepth 100000 in
theorem w_m_X2_handOn_15 {X : g_X (g_St)} (C : g_C X cX2_handOn RX2 wsX2_handOn rm_m_X2_handOn 5) (q : g_qV X) (hA : g_ag L_m_X2_handOn (g_n X) (g_T X)) (N : Nat) : ∀ (fu : Nat) (x2 : Int32) (x3 : Int32) (x4 : Int32) (σ : g_St), G X 15 [(0, .ref (g_b X + 59)), (1, .ref (g_b X + 13)), (2, .int x2), (3, .int x3), (4, .int x4)] [] σ (m_X2_handOn_15 N fu x2 x3 x4 σ) := by
  have t13 := g_ag_at hA (c := 13) rfl tc13
  have t14 := g_ag_at hA (c := 14) rfl tc14
  have t59 := g_ag_at hA (c := 59) rfl tc59
  have t60 := g_ag_at hA (c := 60) rfl tc60
  intro fu
  induction fu with
  | zero => intro x2 x3 x4 σ; exact G_none
  | succ fu ih =>
    intro x2 x3 x4 σ
    unfold m_X2_handOn_15
    refine G_iload C dX2_handOn_15 4 rfl ?_
    refine G_aload_n C dX2_handOn_17 rfl 1 rfl ?_
    refine G_getI C f_X2_handOn_77 t13 rfl dX2_handOn_18 ?_
    refine G_icmp_ge C dX2_handOn_21 (tgt := 73) (by decide) (fun c1 => ?_) (fun c1 => ?_)
    · exact G_vret C q dX2_handOn_73
    · refine G_iload_n C dX2_handOn_24 rfl 2 rfl ?_
      refine G_iload C dX2_handOn_25 4 rfl ?_
      refine G_callI (rest := []) (fun a ha => g_runSN C (nargs := 2) (As := [.int x2, .int x4]) (rest := []) (host := "BirthdayLot") gX2_handOn_X10_holds_n80 rfl n_X2_handOn_80 w_X2_handOn_80 (by decide +kernel) rfl rfl rfl dX2_handOn_27 (k_m_X10_holds X.1.2.1 X.2.1 (g_n X) (g_T X) (g_ag_sub hA (by decide +kernel)) x2 x4 σ a ha)) (fun q2 => ?_)
      refine G_if_eq C dX2_handOn_30 (tgt := 67) (by decide) (fun c3 => ?_) (fun c3 => ?_)
      · exact w_m_X2_handOn_67 C q hA (m_X2_handOn_15 N fu) ih N x2 x3 x4 q2.2
      · refine G_aload_n C dX2_handOn_33 rfl 0 rfl ?_
        refine G_getR C f_X2_handOn_9 t59 rfl dX2_handOn_34 ?_
        refine G_iload_n C dX2_handOn_37 rfl 2 rfl ?_
        refine G_iconst C dX2_handOn_38 (v := 1) (by decide +kernel) ?_
        refine G_iload C dX2_handOn_39 4 rfl ?_
        refine G_ishl C dX2_handOn_41 ?_
        refine G_iconst C dX2_handOn_42 (v := -1) (by decide +kernel) ?_
        refine G_ixor C dX2_handOn_43 ?_
        refine G_iand C dX2_handOn_44 ?_
        refine G_lti (fun v4 => ?_)
        refine G_dup2 C dX2_handOn_45 rfl rfl ?_
        refine G_chk (fun h5 => ?_)
        refine G_lald C t60 h5 dX2_handOn_46 ?_
        refine G_aload_n C dX2_handOn_47 rfl 0 rfl ?_
        refine G_getR C f_X2_handOn_9 t59 rfl dX2_handOn_48 ?_
        refine G_iload_n C dX2_handOn_51 rfl 2 rfl ?_
        refine G_chk (fun h6 => ?_)
        refine G_lald C t60 h6 dX2_handOn_52 ?_
        refine G_aload_n C dX2_handOn_53 rfl 1 rfl ?_
        refine G_getR C f_X2_handOn_84 t13 rfl dX2_handOn_54 ?_
        refine G_iload C dX2_handOn_57 4 rfl ?_
        refine G_chk (fun h7 => ?_)
        refine G_ald C t14 h7 dX2_handOn_59 ?_
        refine G_i2l C dX2_handOn_60 ?_
        refine G_lmul C dX2_handOn_61 ?_
        refine G_iload_n C dX2_handOn_62 rfl 3 rfl ?_
        refine G_i2l C dX2_handOn_63 ?_
        refine G_chn (fun h8 => ?_)
        refine G_ldiv C dX2_handOn_64 h8 ?_
        refine G_ladd C dX2_handOn_65 ?_
        refine G_chk (fun h9 => ?_)
        refine G_lst C t60 h9 dX2_handOn_66 ?_
        refine G_lts (fun σ10 => ?_)
        exact w_m_X2_handOn_67 C q hA (m_X2_handOn_15 N fu) ih N x2 x3 x4 σ10
set_option maxHeartbeats 4000000 in
set_option maxRecDepth 100000 in
theorem w_m_X2_handOn_0 {X : g_X (g_St)} (C : g_C X cX2_handOn RX2 wsX2_handOn rm_m_X2_handOn 5) (q : g_qV X) (hA : g_ag L_m_X2_handOn (g_n X) (g_T X)) (N : Nat) (x2 : Int32) (σ : g_St) : G X 0 [(0, .ref (g_b X + 59)), (1, .ref (g_b X + 13)), (2, .int x2)] [] σ (m_X2_handOn N x2 σ) := by
  have t13 := g_ag_at hA (c := 13) rfl tc13
  unfold m_X2_handOn
  refine G_aload_n C dX2_handOn_0 rfl 1 rfl ?_
  refine G_iload_n C dX2_handOn_1 rfl 2 rfl ?_
  refine G_callI (rest := []) (fun a ha => g_runV C (nargs := 1) (As := [.int x2]) (rest := []) gX2_handOn_X7_weightOf rfl (by decide +kernel) rfl t13 rfl rfl rfl rfl dX2_handOn_2 (k_m_X7_weightOf X.1.2.1 X.2.1 (g_n X) (g_T X) (g_ag_sub hA (by decide +kernel)) N x2 σ a ha)) (fun q1 => ?_)
  refine G_istore_n C dX2_handOn_5 rfl rfl (lv' := [(3, .int q1.1), (0, .ref (g_b X + 59)), (1, .ref (g_b X + 13)), (2, .int x2)]) rfl ?_
  refine G_iload_n C dX2_handOn_6 rfl 0 rfl ?_
  refine G_iconst C dX2_handOn_7 (v := 1) (by decide +kernel) ?_
  refine G_icmp_ge C dX2_handOn_8 (tgt := 12) (by decide) (fun c2 => ?_) (fun c2 => ?_)
  · refine G_iconst C dX2_handOn_12 (v := 0) (by decide +kernel) ?_
    refine G_istore C dX2_handOn_13 rfl (lv' := [(4, .int (0 : Int32)), (3, .int q1.1), (0, .ref (g_b X + 59)), (1, .ref (g_b X + 13)), (2, .int x2)]) rfl ?_
    exact G_sub (w_m_X2_handOn_15 C q hA N N x2 q1.1 (0 : Int32) q1.2) [2, 3, 4, 1, 0] rfl
  · exact G_vret C q dX2_handOn_11
theorem k_m_X2_handOn (l : Launch) (E : g_E) (n : Nat) (T : Nat → g_Sh) (hA : g_ag L_m_X2_handOn n T) (N : Nat) (x2 : Int32) (σ : g_St) (a : g_St) (h : m_X2_handOn N x2 σ = some a) : Met l yX2_handOn wsX2_handOn rm_m_X2_handOn (g_Pc E n T [.ref (E.2.1 + 59), .ref (E.2.1 + 13), .int x2] σ) (g_Qv E n T a) 0 0 (g_A E) :=
  g_metV (by decide +kernel) rfl rfl (Nat.le_of_ble_eq_true rfl) (fun M Qf C q => by rw [← h]; exact w_m_X2_handOn_0 C q hA N x2 σ)
def L_m_J7_fillL_60 : List Nat := [60]
abbrev rm_m_J7_fillL_60 : Room := { frames := 0, cells := 0, slots := 0, locals := 0 }
set_option maxHeartbeats 4000000 in
set_option maxRecDepth 100000 in
theorem w_m_J7_fillL_60_6 {X : g_X (g_St)} (C : g_C X cJ7_fill_d0a16 RJ7 wsJ7_fill_d0a16 rm_m_J7_fillL_60 5) (q : g_qV X) (hA : g_ag L_m_J7_fillL_60 (g_n X) (g_T X)) (N : Nat) : ∀ (fu : Nat) (x1 : Int64) (x3 : Int32) (x4 : Int32) (σ : g_St), G X 6 [(0, .ref (g_b X + 60)), (1, .long x1), (3, .int x3), (4, .int x4)] [] σ (m_J7_fillL_60_6 N fu x1 x3 x4 σ) := by
  have t60 := g_ag_at hA (c := 60) rfl tc60
  intro fu
  induction fu with
  | zero => intro x1 x3 x4 σ; exact G_none
  | succ fu ih =>
    intro x1 x3 x4 σ
    unfold m_J7_fillL_60_6
    refine G_iload_n C dJ7_fill_d0a16_6 rfl 2 rfl ?_
    refine G_iload C dJ7_fill_d0a16_7 3 rfl ?_
    refine G_icmp_ge C dJ7_fill_d0a16_9 (tgt := 22) (by decide) (fun c1 => ?_) (fun c1 => ?_)
    · exact G_vret C q dJ7_fill_d0a16_22
    · refine G_aload_n C dJ7_fill_d0a16_12 rfl 0 rfl ?_
      refine G_iload_n C dJ7_fill_d0a16_13 rfl 2 rfl ?_
      refine G_lload_n C dJ7_fill_d0a16_14 rfl 1 rfl ?_
      refine G_chk (fun h2 => ?_)
      refine G_lst C t60 h2 dJ7_fill_d0a16_15 ?_
      refine G_lts (fun σ3 => ?_)
      refine G_iinc C dJ7_fill_d0a16_16 2 rfl (v := (x3 + (1 : Int32))) (by rfl) rfl (lv' := [(3, .int (x3 + (1 : Int32))), (0, .ref (g_b X + 60)), (1, .long x1), (4, .int x4)]) rfl ?_
      refine G_ltv (fun v => [(3, .int v), (0, .ref (g_b X + 60)), (1, .long x1), (4, .int x4)]) (fun v4 => ?_)
      refine G_goto C dJ7_fill_d0a16_19 (tgt := 6) (by decide) ?_
      exact G_sub (ih x1 v4 x4 σ3) [1, 2, 0, 3] rfl
set_option maxHeartbeats 4000000 in
set_option maxRecDepth 100000 in
theorem w_m_J7_fillL_60_0 {X : g_X (g_St)} (C : g_C X cJ7_fill_d0a16 RJ7 wsJ7_fill_d0a16 rm_m_J7_fillL_60 5) (q : g_qV X) (hA : g_ag L_m_J7_fillL_60 (g_n X) (g_T X)) (N : Nat) (x1 : Int64) (σ : g_St) : G X 0 [(0, .ref (g_b X + 60)), (1, .long x1)] [] σ (m_J7_fillL_60 N x1 σ) := by
  have t60 := g_ag_at hA (c := 60) rfl tc60
  unfold m_J7_fillL_60
  refine G_iconst C dJ7_fill_d0a16_0 (v := 0) (by decide +kernel) ?_
  refine G_istore_n C dJ7_fill_d0a16_1 rfl rfl (lv' := [(3, .int (0 : Int32)), (0, .ref (g_b X + 60)), (1, .long x1)]) rfl ?_
  refine G_aload_n C dJ7_fill_d0a16_2 rfl 1 rfl ?_
  refine G_alenL C t60 (v := 256) (by decide +kernel) dJ7_fill_d0a16_3 ?_
  refine G_istore C dJ7_fill_d0a16_4 rfl (lv' := [(4, .int (256 : Int32)), (3, .int (0 : Int32)), (0, .ref (g_b X + 60)), (1, .long x1)]) rfl ?_
  exact G_sub (w_m_J7_fillL_60_6 C q hA N N x1 (0 : Int32) (256 : Int32) σ) [2, 3, 1, 0] rfl
theorem k_m_J7_fillL_60 (l : Launch) (E : g_E) (n : Nat) (T : Nat → g_Sh) (hA : g_ag L_m_J7_fillL_60 n T) (N : Nat) (x1 : Int64) (σ : g_St) (a : g_St) (h : m_J7_fillL_60 N x1 σ = some a) : Met l yJ7_fill_d0a16 wsJ7_fill_d0a16 rm_m_J7_fillL_60 (g_Pc E n T [.ref (E.2.1 + 60), .long x1] σ) (g_Qv E n T a) 0 0 (g_A E) :=
  g_metV (by decide +kernel) rfl rfl (Nat.le_of_ble_eq_true rfl) (fun M Qf C q => by rw [← h]; exact w_m_J7_fillL_60_0 C q hA N x1 σ)
def L_m_J6_bitCount : List Nat := []
abbrev rm_m_J6_bitCount : Room := { frames := 0, cells := 0, slots := 0, locals := 0 }
theorem c_J6_bitCount_0f7a4_265 : Cond.constant RJ6 265 (1431655765) ∈ wsJ6_bitCount_0f7a4 := by decide +kernel
theorem c_J6_bitCount_0f7a4_266 : Cond.constant RJ6 266 (858993459) ∈ wsJ6_bitCount_0f7a4 := by decide +kernel
theorem c_J6_bitCount_0f7a4_267 : Cond.constant RJ6 267 (252645135) ∈ wsJ6_bitCount_0f7a4 := by decide +kernel
set_option maxHeartbeats 4000000 in
set_option maxRecDepth 100000 in
theorem w_m_J6_bitCount_0 {X : g_X (Int32 × g_St)} (C : g_C X cJ6_bitCount_0f7a4 RJ6 wsJ6_bitCount_0f7a4 rm_m_J6_bitCount 1) (q : g_qI X) (hA : g_ag L_m_J6_bitCount (g_n X) (g_T X)) (x0 : Int32) (σ : g_St) : G X 0 [(0, .int x0)] [] σ (m_J6_bitCount x0 σ) := by
  unfold m_J6_bitCount
  refine G_iload_n C dJ6_bitCount_0f7a4_0 rfl 0 rfl ?_
  refine G_iload_n C dJ6_bitCount_0f7a4_1 rfl 0 rfl ?_
  refine G_iconst C dJ6_bitCount_0f7a4_2 (v := 1) (by decide +kernel) ?_
  refine G_iushr C dJ6_bitCount_0f7a4_3 ?_
  refine G_ldcw C dJ6_bitCount_0f7a4_4 c_J6_bitCount_0f7a4_265 ?_
  refine G_iand C dJ6_bitCount_0f7a4_7 ?_
  refine G_isub C dJ6_bitCount_0f7a4_8 ?_
  refine G_lti (fun v1 => ?_)
  refine G_istore_n C dJ6_bitCount_0f7a4_9 rfl rfl (lv' := [(0, .int v1)]) rfl ?_
  refine G_iload_n C dJ6_bitCount_0f7a4_10 rfl 0 rfl ?_
  refine G_ldcw C dJ6_bitCount_0f7a4_11 c_J6_bitCount_0f7a4_266 ?_
  refine G_iand C dJ6_bitCount_0f7a4_14 ?_
  refine G_iload_n C dJ6_bitCount_0f7a4_15 rfl 0 rfl ?_
  refine G_iconst C dJ6_bitCount_0f7a4_16 (v := 2) (by decide +kernel) ?_
  refine G_iushr C dJ6_bitCount_0f7a4_17 ?_
  refine G_ldcw C dJ6_bitCount_0f7a4_18 c_J6_bitCount_0f7a4_266 ?_
  refine G_iand C dJ6_bitCount_0f7a4_21 ?_
  refine G_iadd C dJ6_bitCount_0f7a4_22 ?_
  refine G_lti (fun v2 => ?_)
  refine G_istore_n C dJ6_bitCount_0f7a4_23 rfl rfl (lv' := [(0, .int v2)]) rfl ?_
  refine G_iload_n C dJ6_bitCount_0f7a4_24 rfl 0 rfl ?_
  refine G_iload_n C dJ6_bitCount_0f7a4_25 rfl 0 rfl ?_
  refine G_iconst C dJ6_bitCount_0f7a4_26 (v := 4) (by decide +kernel) ?_
  refine G_iushr C dJ6_bitCount_0f7a4_27 ?_
  refine G_iadd C dJ6_bitCount_0f7a4_28 ?_
  refine G_ldcw C dJ6_bitCount_0f7a4_29 c_J6_bitCount_0f7a4_267 ?_
  refine G_iand C dJ6_bitCount_0f7a4_32 ?_
  refine G_lti (fun v3 => ?_)
  refine G_istore_n C dJ6_bitCount_0f7a4_33 rfl rfl (lv' := [(0, .int v3)]) rfl ?_
  refine G_iload_n C dJ6_bitCount_0f7a4_34 rfl 0 rfl ?_
  refine G_iload_n C dJ6_bitCount_0f7a4_35 rfl 0 rfl ?_
  refine G_bipush C dJ6_bitCount_0f7a4_36 (v := 8) (by decide +kernel) ?_
  refine G_iushr C dJ6_bitCount_0f7a4_38 ?_
  refine G_iadd C dJ6_bitCount_0f7a4_39 ?_
  refine G_lti (fun v4 => ?_)
  refine G_istore_n C dJ6_bitCount_0f7a4_40 rfl rfl (lv' := [(0, .int v4)]) rfl ?_
  refine G_iload_n C dJ6_bitCount_0f7a4_41 rfl 0 rfl ?_
  refine G_iload_n C dJ6_bitCount_0f7a4_42 rfl 0 rfl ?_
  refine G_bipush C dJ6_bitCount_0f7a4_43 (v := 16) (by decide +kernel) ?_
  refine G_iushr C dJ6_bitCount_0f7a4_45 ?_
  refine G_iadd C dJ6_bitCount_0f7a4_46 ?_
  refine G_lti (fun v5 => ?_)
  refine G_istore_n C dJ6_bitCount_0f7a4_47 rfl rfl (lv' := [(0, .int v5)]) rfl ?_
  refine G_iload_n C dJ6_bitCount_0f7a4_48 rfl 0 rfl ?_
  refine G_bipush C dJ6_bitCount_0f7a4_49 (v := 63) (by decide +kernel) ?_
  refine G_iand C dJ6_bitCount_0f7a4_51 ?_
  exact G_iret C q dJ6_bitCount_0f7a4_52
theorem k_m_J6_bitCount (l : Launch) (E : g_E) (n : Nat) (T : Nat → g_Sh) (hA : g_ag L_m_J6_bitCount n T) (x0 : Int32) (σ : g_St) (a : Int32 × g_St) (h : m_J6_bitCount x0 σ = some a) : Met l yJ6_bitCount_0f7a4 wsJ6_bitCount_0f7a4 rm_m_J6_bitCount (g_Pc E n T [.int x0] σ) (g_Qi E n T a) 0 0 (g_A E) :=
  g_metI (by decide +kernel) rfl rfl (Nat.le_of_ble_eq_true rfl) (fun M Qf C q => by rw [← h]; exact w_m_J6_bitCount_0 C q hA x0 σ)
