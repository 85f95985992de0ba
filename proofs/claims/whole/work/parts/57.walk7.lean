def L_m_X11_person : List Nat := [77, 79, 81]
abbrev rm_m_X11_person : Room := { frames := 2, cells := 0, slots := 0, locals := 46 }
theorem f_X11_person_13 : g_Fld wsX11_person RX11 13 11 1 := ⟨RX11, TX11, 27, rfl, by decide +kernel, by decide, by decide +kernel⟩
theorem f_X11_person_19 : g_Fld wsX11_person RX11 19 11 7 := ⟨RX11, TX11, 27, rfl, by decide +kernel, by decide, by decide +kernel⟩
theorem c_X11_person_139 : Cond.constant RX11 139 (-1000000001) ∈ wsX11_person := by decide +kernel
theorem c_X11_person_71 : Cond.constant RX11 71 (-1000000002) ∈ wsX11_person := by decide +kernel
set_option maxHeartbeats 4000000 in
set_option maxRecDepth 100000 in
theorem w_m_X11_person_96 {X : g_X (Int32 × g_St)} (C : g_C X cX11_person RX11 wsX11_person rm_m_X11_person 5) (q : g_qI X) (hA : g_ag L_m_X11_person (g_n X) (g_T X)) (N : Nat) (x1 : Int32) (x2 : Int32) (σ : g_St) : G X 96 [(0, .ref (g_b X + 77)), (1, .int x1), (2, .int x2)] [] σ (m_X11_person_96 N x1 x2 σ) := by
  have t77 := g_ag_at hA (c := 77) rfl tc77
  have t81 := g_ag_at hA (c := 81) rfl tc81
  unfold m_X11_person_96
  refine G_aload_n C dX11_person_96 rfl 0 rfl ?_
  refine G_getR C f_X11_person_19 t77 rfl dX11_person_97 ?_
  refine G_iconst C dX11_person_100 (v := 3) (by decide +kernel) ?_
  refine G_iconst C dX11_person_101 (v := 2) (by decide +kernel) ?_
  refine G_iload_n C dX11_person_102 rfl 1 rfl ?_
  refine G_imul C dX11_person_103 ?_
  refine G_iadd C dX11_person_104 ?_
  refine G_iload_n C dX11_person_105 rfl 2 rfl ?_
  refine G_iadd C dX11_person_106 ?_
  refine G_chk (fun h1 => ?_)
  refine G_ald C t81 h1 dX11_person_107 ?_
  exact G_iret C q dX11_person_108
set_option maxHeartbeats 4000000 in
set_option maxRecDepth 100000 in
theorem w_m_X11_person_53 {X : g_X (Int32 × g_St)} (C : g_C X cX11_person RX11 wsX11_person rm_m_X11_person 5) (q : g_qI X) (hA : g_ag L_m_X11_person (g_n X) (g_T X)) (k16 : Int32 → Int32 → Int32 → Int32 → g_St → Option (Int32 × g_St)) (hk16 : ∀ (x1 : Int32) (x2 : Int32) (x3 : Int32) (x4 : Int32) (σ : g_St), G X 16 [(0, .ref (g_b X + 77)), (1, .int x1), (2, .int x2), (3, .int x3), (4, .int x4)] [] σ (k16 x1 x2 x3 x4 σ)) (N : Nat) (x1 : Int32) (x2 : Int32) (x4 : Int32) (s0 : Int32) (s1 : Int32) (σ : g_St) : G X 53 [(0, .ref (g_b X + 77)), (1, .int x1), (2, .int x2), (4, .int x4)] [.int s1, .int s0] σ (m_X11_person_53 k16 N x1 x2 x4 s0 s1 σ) := by
  unfold m_X11_person_53
  refine G_ior C dX11_person_53 ?_
  refine G_lti (fun v1 => ?_)
  refine G_istore_n C dX11_person_54 rfl rfl (lv' := [(3, .int v1), (0, .ref (g_b X + 77)), (1, .int x1), (2, .int x2), (4, .int x4)]) rfl ?_
  refine G_iinc C dX11_person_55 4 rfl (v := (x4 + (1 : Int32))) (by rfl) rfl (lv' := [(4, .int (x4 + (1 : Int32))), (3, .int v1), (0, .ref (g_b X + 77)), (1, .int x1), (2, .int x2)]) rfl ?_
  refine G_ltv (fun v => [(4, .int v), (3, .int v1), (0, .ref (g_b X + 77)), (1, .int x1), (2, .int x2)]) (fun v2 => ?_)
  refine G_goto C dX11_person_58 (tgt := 16) (by decide) ?_
  exact G_sub (hk16 x1 x2 v1 v2 σ) [2, 3, 4, 1, 0] rfl
set_option maxHeartbeats 4000000 in
set_option maxRecDepth 100000 in
theorem w_m_X11_person_16 {X : g_X (Int32 × g_St)} (C : g_C X cX11_person RX11 wsX11_person rm_m_X11_person 5) (q : g_qI X) (hA : g_ag L_m_X11_person (g_n X) (g_T X)) (N : Nat) : ∀ (fu : Nat) (x1 : Int32) (x2 : Int32) (x3 : Int32) (x4 : Int32) (σ : g_St), G X 16 [(0, .ref (g_b X + 77)), (1, .int x1), (2, .int x2), (3, .int x3), (4, .int x4)] [] σ (m_X11_person_16 N fu x1 x2 x3 x4 σ) := by
  have t77 := g_ag_at hA (c := 77) rfl tc77
  have t79 := g_ag_at hA (c := 79) rfl tc79
  have t81 := g_ag_at hA (c := 81) rfl tc81
  intro fu
  induction fu with
  | zero => intro x1 x2 x3 x4 σ; exact G_none
  | succ fu ih =>
    intro x1 x2 x3 x4 σ
    unfold m_X11_person_16
    refine G_iload C dX11_person_16 4 rfl ?_
    refine G_iconst C dX11_person_18 (v := 4) (by decide +kernel) ?_
    refine G_icmp_ge C dX11_person_19 (tgt := 61) (by decide) (fun c1 => ?_) (fun c1 => ?_)
    · refine G_iload_n C dX11_person_61 rfl 2 rfl ?_
      refine G_ite (fun e2 => ?_) (fun e2 => ?_)
      · refine G_tsIn C dX11_person_62 e2 (off := 34) (tgt := 96) (by decide +kernel) ?_
        exact G_sub (w_m_X11_person_96 C q hA N x1 x2 σ) [0, 1, 2] rfl
      · refine G_ite (fun e3 => ?_) (fun e3 => ?_)
        · refine G_tsIn C dX11_person_62 e3 (off := 34) (tgt := 96) (by decide +kernel) ?_
          exact G_sub (w_m_X11_person_96 C q hA N x1 x2 σ) [0, 1, 2] rfl
        · refine G_ite (fun e4 => ?_) (fun e4 => ?_)
          · refine G_tsIn C dX11_person_62 e4 (off := 47) (tgt := 109) (by decide +kernel) ?_
            refine G_iload_n C dX11_person_109 rfl 3 rfl ?_
            exact G_iret C q dX11_person_110
          · refine G_ite (fun e5 => ?_) (fun e5 => ?_)
            · refine G_tsIn C dX11_person_62 e5 (off := 49) (tgt := 111) (by decide +kernel) ?_
              refine G_aload_n C dX11_person_111 rfl 0 rfl ?_
              refine G_iload_n C dX11_person_112 rfl 1 rfl ?_
              refine G_callI (rest := []) (fun a ha => g_runV C (nargs := 1) (As := [.int x1]) (rest := []) gX11_person_X11_held rfl (by decide +kernel) rfl t77 rfl rfl rfl rfl dX11_person_113 (k_m_X11_held X.1.2.1 X.2.1 (g_n X) (g_T X) (g_ag_sub hA (by decide +kernel)) N x1 σ a ha)) (fun q6 => ?_)
              exact G_iret C q dX11_person_116
            · refine G_ite (fun e7 => ?_) (fun e7 => ?_)
              · refine G_tsIn C dX11_person_62 e7 (off := 55) (tgt := 117) (by decide +kernel) ?_
                refine G_aload_n C dX11_person_117 rfl 0 rfl ?_
                refine G_iload_n C dX11_person_118 rfl 1 rfl ?_
                refine G_callI (rest := []) (fun a ha => g_runV C (nargs := 1) (As := [.int x1]) (rest := []) gX11_person_X11_own rfl (by decide +kernel) rfl t77 rfl rfl rfl rfl dX11_person_119 (k_m_X11_own X.1.2.1 X.2.1 (g_n X) (g_T X) (g_ag_sub hA (by decide +kernel)) N x1 σ a ha)) (fun q8 => ?_)
                exact G_iret C q dX11_person_122
              · refine G_tsOut C dX11_person_62 (by have u0 := lv_neT e2 (a := 0) (by decide +kernel); have u1 := lv_neT e3 (a := 1) (by decide +kernel); have u2 := lv_neT e4 (a := 2) (by decide +kernel); have u3 := lv_neT e5 (a := 3) (by decide +kernel); have u4 := lv_neT e7 (a := 4) (by decide +kernel); omega) (tgt := 123) (by decide) ?_
                refine G_ldc C dX11_person_123 c_X11_person_71 ?_
                exact G_iret C q dX11_person_125
    · refine G_iload_n C dX11_person_22 rfl 3 rfl ?_
      refine G_aload_n C dX11_person_23 rfl 0 rfl ?_
      refine G_getR C f_X11_person_19 t77 rfl dX11_person_24 ?_
      refine G_iconst C dX11_person_27 (v := 3) (by decide +kernel) ?_
      refine G_iconst C dX11_person_28 (v := 2) (by decide +kernel) ?_
      refine G_iload_n C dX11_person_29 rfl 1 rfl ?_
      refine G_imul C dX11_person_30 ?_
      refine G_iadd C dX11_person_31 ?_
      refine G_chk (fun h9 => ?_)
      refine G_ald C t81 h9 dX11_person_32 ?_
      refine G_aload_n C dX11_person_33 rfl 0 rfl ?_
      refine G_getR C f_X11_person_13 t77 rfl dX11_person_34 ?_
      refine G_iconst C dX11_person_37 (v := 5) (by decide +kernel) ?_
      refine G_iload C dX11_person_38 4 rfl ?_
      refine G_iadd C dX11_person_40 ?_
      refine G_chk (fun h10 => ?_)
      refine G_ald C t79 h10 dX11_person_41 ?_
      refine G_icmp_lt C dX11_person_42 (tgt := 52) (by decide) (fun c11 => ?_) (fun c11 => ?_)
      · refine G_iconst C dX11_person_52 (v := 0) (by decide +kernel) ?_
        exact G_sub (w_m_X11_person_53 C q hA (m_X11_person_16 N fu) ih N x1 x2 x4 x3 (0 : Int32) σ) [0, 1, 2, 4] rfl
      · refine G_iconst C dX11_person_45 (v := 1) (by decide +kernel) ?_
        refine G_iload C dX11_person_46 4 rfl ?_
        refine G_ishl C dX11_person_48 ?_
        refine G_goto C dX11_person_49 (tgt := 53) (by decide) ?_
        exact G_sub (w_m_X11_person_53 C q hA (m_X11_person_16 N fu) ih N x1 x2 x4 x3 ((1 : Int32) <<< (x4 &&& 31)) σ) [0, 1, 2, 4] rfl
set_option maxHeartbeats 4000000 in
set_option maxRecDepth 100000 in
theorem w_m_X11_person_0 {X : g_X (Int32 × g_St)} (C : g_C X cX11_person RX11 wsX11_person rm_m_X11_person 5) (q : g_qI X) (hA : g_ag L_m_X11_person (g_n X) (g_T X)) (N : Nat) (x1 : Int32) (x2 : Int32) (σ : g_St) : G X 0 [(0, .ref (g_b X + 77)), (1, .int x1), (2, .int x2)] [] σ (m_X11_person N x1 x2 σ) := by
  have t77 := g_ag_at hA (c := 77) rfl tc77
  unfold m_X11_person
  refine G_aload_n C dX11_person_0 rfl 0 rfl ?_
  refine G_iload_n C dX11_person_1 rfl 1 rfl ?_
  refine G_callI (rest := []) (fun a ha => g_runV C (nargs := 1) (As := [.int x1]) (rest := []) gX11_person_X11_isPerson rfl (by decide +kernel) rfl t77 rfl rfl rfl rfl dX11_person_2 (k_m_X11_isPerson X.1.2.1 X.2.1 (g_n X) (g_T X) (g_ag_sub hA (by decide +kernel)) x1 σ a ha)) (fun q1 => ?_)
  refine G_if_ne C dX11_person_5 (tgt := 11) (by decide) (fun c2 => ?_) (fun c2 => ?_)
  · refine G_ldc C dX11_person_8 c_X11_person_139 ?_
    exact G_iret C q dX11_person_10
  · refine G_iconst C dX11_person_11 (v := 0) (by decide +kernel) ?_
    refine G_istore_n C dX11_person_12 rfl rfl (lv' := [(3, .int (0 : Int32)), (0, .ref (g_b X + 77)), (1, .int x1), (2, .int x2)]) rfl ?_
    refine G_iconst C dX11_person_13 (v := 0) (by decide +kernel) ?_
    refine G_istore C dX11_person_14 rfl (lv' := [(4, .int (0 : Int32)), (3, .int (0 : Int32)), (0, .ref (g_b X + 77)), (1, .int x1), (2, .int x2)]) rfl ?_
    exact G_sub (w_m_X11_person_16 C q hA N N x1 x2 (0 : Int32) (0 : Int32) q1.2) [2, 3, 4, 1, 0] rfl
theorem k_m_X11_person (l : Launch) (E : g_E) (n : Nat) (T : Nat → g_Sh) (hA : g_ag L_m_X11_person n T) (N : Nat) (x1 : Int32) (x2 : Int32) (σ : g_St) (a : Int32 × g_St) (h : m_X11_person N x1 x2 σ = some a) : Met l yX11_person wsX11_person rm_m_X11_person (g_Pc E n T [.ref (E.2.1 + 77), .int x1, .int x2] σ) (g_Qi E n T a) 0 0 (g_A E) :=
  g_metI (by decide +kernel) rfl rfl (Nat.le_of_ble_eq_true rfl) (fun M Qf C q => by rw [← h]; exact w_m_X11_person_0 C q hA N x1 x2 σ)
def L_m_X11_ticket : List Nat := [77, 79, 81]
abbrev rm_m_X11_ticket : Room := { frames := 2, cells := 0, slots := 0, locals := 46 }
theorem f_X11_ticket_19 : g_Fld wsX11_ticket RX11 19 11 7 := ⟨RX11, TX11, 27, rfl, by decide +kernel, by decide, by decide +kernel⟩
theorem c_X11_ticket_139 : Cond.constant RX11 139 (-1000000001) ∈ wsX11_ticket := by decide +kernel
theorem c_X11_ticket_71 : Cond.constant RX11 71 (-1000000002) ∈ wsX11_ticket := by decide +kernel
set_option maxHeartbeats 4000000 in
set_option maxRecDepth 100000 in
theorem w_m_X11_ticket_0 {X : g_X (Int32 × g_St)} (C : g_C X cX11_ticket RX11 wsX11_ticket rm_m_X11_ticket 3) (q : g_qI X) (hA : g_ag L_m_X11_ticket (g_n X) (g_T X)) (x1 : Int32) (x2 : Int32) (σ : g_St) : G X 0 [(0, .ref (g_b X + 77)), (1, .int x1), (2, .int x2)] [] σ (m_X11_ticket x1 x2 σ) := by
  have t77 := g_ag_at hA (c := 77) rfl tc77
  have t81 := g_ag_at hA (c := 81) rfl tc81
  unfold m_X11_ticket
  refine G_aload_n C dX11_ticket_0 rfl 0 rfl ?_
  refine G_iload_n C dX11_ticket_1 rfl 1 rfl ?_
  refine G_callI (rest := []) (fun a ha => g_runV C (nargs := 1) (As := [.int x1]) (rest := []) gX11_ticket_X11_isTicket rfl (by decide +kernel) rfl t77 rfl rfl rfl rfl dX11_ticket_2 (k_m_X11_isTicket X.1.2.1 X.2.1 (g_n X) (g_T X) (g_ag_sub hA (by decide +kernel)) x1 σ a ha)) (fun q1 => ?_)
  refine G_if_ne C dX11_ticket_5 (tgt := 11) (by decide) (fun c2 => ?_) (fun c2 => ?_)
  · refine G_ldc C dX11_ticket_8 c_X11_ticket_139 ?_
    exact G_iret C q dX11_ticket_10
  · refine G_iload_n C dX11_ticket_11 rfl 2 rfl ?_
    refine G_ite (fun e3 => ?_) (fun e3 => ?_)
    · refine G_tsIn C dX11_ticket_12 e3 (off := 32) (tgt := 44) (by decide +kernel) ?_
      refine G_aload_n C dX11_ticket_44 rfl 0 rfl ?_
      refine G_getR C f_X11_ticket_19 t77 rfl dX11_ticket_45 ?_
      refine G_bipush C dX11_ticket_48 (v := 15) (by decide +kernel) ?_
      refine G_iconst C dX11_ticket_50 (v := 3) (by decide +kernel) ?_
      refine G_iload_n C dX11_ticket_51 rfl 1 rfl ?_
      refine G_imul C dX11_ticket_52 ?_
      refine G_iadd C dX11_ticket_53 ?_
      refine G_chk (fun h4 => ?_)
      refine G_ald C t81 h4 dX11_ticket_54 ?_
      exact G_iret C q dX11_ticket_55
    · refine G_ite (fun e5 => ?_) (fun e5 => ?_)
      · refine G_tsIn C dX11_ticket_12 e5 (off := 44) (tgt := 56) (by decide +kernel) ?_
        refine G_aload_n C dX11_ticket_56 rfl 0 rfl ?_
        refine G_iload_n C dX11_ticket_57 rfl 1 rfl ?_
        refine G_callI (rest := []) (fun a ha => g_runV C (nargs := 1) (As := [.int x1]) (rest := []) gX11_ticket_X11_weight rfl (by decide +kernel) rfl t77 rfl rfl rfl rfl dX11_ticket_58 (k_m_X11_weight X.1.2.1 X.2.1 (g_n X) (g_T X) (g_ag_sub hA (by decide +kernel)) x1 q1.2 a ha)) (fun q6 => ?_)
        exact G_iret C q dX11_ticket_61
      · refine G_ite (fun e7 => ?_) (fun e7 => ?_)
        · refine G_tsIn C dX11_ticket_12 e7 (off := 50) (tgt := 62) (by decide +kernel) ?_
          refine G_aload_n C dX11_ticket_62 rfl 0 rfl ?_
          refine G_getR C f_X11_ticket_19 t77 rfl dX11_ticket_63 ?_
          refine G_bipush C dX11_ticket_66 (v := 15) (by decide +kernel) ?_
          refine G_iconst C dX11_ticket_68 (v := 3) (by decide +kernel) ?_
          refine G_iload_n C dX11_ticket_69 rfl 1 rfl ?_
          refine G_imul C dX11_ticket_70 ?_
          refine G_iadd C dX11_ticket_71 ?_
          refine G_iconst C dX11_ticket_72 (v := 2) (by decide +kernel) ?_
          refine G_iadd C dX11_ticket_73 ?_
          refine G_chk (fun h8 => ?_)
          refine G_ald C t81 h8 dX11_ticket_74 ?_
          exact G_iret C q dX11_ticket_75
        · refine G_ite (fun e9 => ?_) (fun e9 => ?_)
          · refine G_tsIn C dX11_ticket_12 e9 (off := 64) (tgt := 76) (by decide +kernel) ?_
            refine G_aload_n C dX11_ticket_76 rfl 0 rfl ?_
            refine G_getR C f_X11_ticket_19 t77 rfl dX11_ticket_77 ?_
            refine G_bipush C dX11_ticket_80 (v := 15) (by decide +kernel) ?_
            refine G_iconst C dX11_ticket_82 (v := 3) (by decide +kernel) ?_
            refine G_iload_n C dX11_ticket_83 rfl 1 rfl ?_
            refine G_imul C dX11_ticket_84 ?_
            refine G_iadd C dX11_ticket_85 ?_
            refine G_iconst C dX11_ticket_86 (v := 1) (by decide +kernel) ?_
            refine G_iadd C dX11_ticket_87 ?_
            refine G_chk (fun h10 => ?_)
            refine G_ald C t81 h10 dX11_ticket_88 ?_
            exact G_iret C q dX11_ticket_89
          · refine G_tsOut C dX11_ticket_12 (by have u0 := lv_neT e3 (a := 0) (by decide +kernel); have u1 := lv_neT e5 (a := 1) (by decide +kernel); have u2 := lv_neT e7 (a := 2) (by decide +kernel); have u3 := lv_neT e9 (a := 3) (by decide +kernel); omega) (tgt := 90) (by decide) ?_
            refine G_ldc C dX11_ticket_90 c_X11_ticket_71 ?_
            exact G_iret C q dX11_ticket_92
theorem k_m_X11_ticket (l : Launch) (E : g_E) (n : Nat) (T : Nat → g_Sh) (hA : g_ag L_m_X11_ticket n T) (x1 : Int32) (x2 : Int32) (σ : g_St) (a : Int32 × g_St) (h : m_X11_ticket x1 x2 σ = some a) : Met l yX11_ticket wsX11_ticket rm_m_X11_ticket (g_Pc E n T [.ref (E.2.1 + 77), .int x1, .int x2] σ) (g_Qi E n T a) 0 0 (g_A E) :=
  g_metI (by decide +kernel) rfl rfl (Nat.le_of_ble_eq_true rfl) (fun M Qf C q => by rw [← h]; exact w_m_X11_ticket_0 C q hA x1 x2 σ)
def L_m_X11_right : List Nat := [77, 79]
abbrev rm_m_X11_right : Room := { frames := 1, cells := 0, slots := 0, locals := 25 }
theorem f_X11_right_13 : g_Fld wsX11_right RX11 13 11 1 := ⟨RX11, TX11, 27, rfl, by decide +kernel, by decide, by decide +kernel⟩
theorem c_X11_right_149 : Cond.constantLong RX11 149 (3) ∈ wsX11_right := by decide +kernel
theorem c_X11_right_71 : Cond.constant RX11 71 (-1000000002) ∈ wsX11_right := by decide +kernel
set_option maxHeartbeats 4000000 in
set_option maxRecDepth 100000 in
theorem w_m_X11_right_0 {X : g_X (Int32 × g_St)} (C : g_C X cX11_right RX11 wsX11_right rm_m_X11_right 2) (q : g_qI X) (hA : g_ag L_m_X11_right (g_n X) (g_T X)) (x1 : Int32) (σ : g_St) : G X 0 [(0, .ref (g_b X + 77)), (1, .int x1)] [] σ (m_X11_right x1 σ) := by
  have t77 := g_ag_at hA (c := 77) rfl tc77
  have t79 := g_ag_at hA (c := 79) rfl tc79
  unfold m_X11_right
  refine G_iload_n C dX11_right_0 rfl 1 rfl ?_
  refine G_i2l C dX11_right_1 ?_
  refine G_lconst C dX11_right_2 (v := 0) (by decide +kernel) ?_
  refine G_ldc2 C dX11_right_3 c_X11_right_149 ?_
  refine G_callI (rest := []) (fun a ha => g_runS C (nargs := 3) (As := [.long (x1).toInt64, .long (0 : Int64), .long (3 : Int64)]) (rest := []) gX11_right_X11_in rfl (by decide +kernel) rfl rfl rfl dX11_right_6 (k_m_X11_in X.1.2.1 X.2.1 (g_n X) (g_T X) (g_ag_sub hA (by decide +kernel)) (x1).toInt64 (0 : Int64) (3 : Int64) σ a ha)) (fun q1 => ?_)
  refine G_if_eq C dX11_right_9 (tgt := 23) (by decide) (fun c2 => ?_) (fun c2 => ?_)
  · refine G_ldc C dX11_right_23 c_X11_right_71 ?_
    exact G_iret C q dX11_right_25
  · refine G_aload_n C dX11_right_12 rfl 0 rfl ?_
    refine G_getR C f_X11_right_13 t77 rfl dX11_right_13 ?_
    refine G_iconst C dX11_right_16 (v := 5) (by decide +kernel) ?_
    refine G_iload_n C dX11_right_17 rfl 1 rfl ?_
    refine G_iadd C dX11_right_18 ?_
    refine G_chk (fun h3 => ?_)
    refine G_ald C t79 h3 dX11_right_19 ?_
    refine G_goto C dX11_right_20 (tgt := 25) (by decide) ?_
    exact G_iret C q dX11_right_25
theorem k_m_X11_right (l : Launch) (E : g_E) (n : Nat) (T : Nat → g_Sh) (hA : g_ag L_m_X11_right n T) (x1 : Int32) (σ : g_St) (a : Int32 × g_St) (h : m_X11_right x1 σ = some a) : Met l yX11_right wsX11_right rm_m_X11_right (g_Pc E n T [.ref (E.2.1 + 77), .int x1] σ) (g_Qi E n T a) 0 0 (g_A E) :=
  g_metI (by decide +kernel) rfl rfl (Nat.le_of_ble_eq_true rfl) (fun M Qf C q => by rw [← h]; exact w_m_X11_right_0 C q hA x1 σ)
def L_m_X11_notes : List Nat := [77, 81, 82]
abbrev rm_m_X11_notes : Room := { frames := 0, cells := 0, slots := 0, locals := 0 }
theorem f_X11_notes_119 : g_Fld wsX11_notes RX11 119 11 9 := ⟨RX11, TX11, 27, rfl, by decide +kernel, by decide, by decide +kernel⟩
theorem f_X11_notes_19 : g_Fld wsX11_notes RX11 19 11 7 := ⟨RX11, TX11, 27, rfl, by decide +kernel, by decide, by decide +kernel⟩
theorem f_X11_notes_22 : g_Fld wsX11_notes RX11 22 11 10 := ⟨RX11, TX11, 27, rfl, by decide +kernel, by decide, by decide +kernel⟩
theorem p_X11_notes_119 : g_FldP wsX11_notes RX11 119 11 9 .int := ⟨RX11, TX11, 27, tyX11, rfl, by decide +kernel, by decide, by decide +kernel, tyX11_ok, nmX11, rfl, by decide +kernel⟩
set_option maxHeartbeats 4000000 in
set_option maxRecDepth 100000 in
theorem w_m_X11_notes_48 {X : g_X (g_St)} (C : g_C X cX11_notes RX11 wsX11_notes rm_m_X11_notes 2) (q : g_qV X) (hA : g_ag L_m_X11_notes (g_n X) (g_T X)) (N : Nat) : ∀ (fu : Nat) (x1 : Int32) (σ : g_St), G X 48 [(0, .ref (g_b X + 77)), (1, .int x1)] [] σ (m_X11_notes_48 N fu x1 σ) := by
  have t77 := g_ag_at hA (c := 77) rfl tc77
  have t81 := g_ag_at hA (c := 81) rfl tc81
  have t82 := g_ag_at hA (c := 82) rfl tc82
  intro fu
  induction fu with
  | zero => intro x1 σ; exact G_none
  | succ fu ih =>
    intro x1 σ
    unfold m_X11_notes_48
    refine G_iload_n C dX11_notes_48 rfl 1 rfl ?_
    refine G_bipush C dX11_notes_49 (v := 39) (by decide +kernel) ?_
    refine G_icmp_ge C dX11_notes_51 (tgt := 80) (by decide) (fun c1 => ?_) (fun c1 => ?_)
    · refine G_aload_n C dX11_notes_80 rfl 0 rfl ?_
      refine G_dup C dX11_notes_81 rfl ?_
      refine G_getI C f_X11_notes_119 t77 rfl dX11_notes_82 ?_
      refine G_iconst C dX11_notes_85 (v := 1) (by decide +kernel) ?_
      refine G_iadd C dX11_notes_86 ?_
      refine G_putI C p_X11_notes_119 t77 rfl rfl rfl dX11_notes_87 ?_
      refine G_lts (fun σ2 => ?_)
      exact G_vret C q dX11_notes_90
    · refine G_aload_n C dX11_notes_54 rfl 0 rfl ?_
      refine G_getR C f_X11_notes_22 t77 rfl dX11_notes_55 ?_
      refine G_bipush C dX11_notes_58 (v := 39) (by decide +kernel) ?_
      refine G_aload_n C dX11_notes_60 rfl 0 rfl ?_
      refine G_getI C f_X11_notes_119 t77 rfl dX11_notes_61 ?_
      refine G_imul C dX11_notes_64 ?_
      refine G_iload_n C dX11_notes_65 rfl 1 rfl ?_
      refine G_iadd C dX11_notes_66 ?_
      refine G_aload_n C dX11_notes_67 rfl 0 rfl ?_
      refine G_getR C f_X11_notes_19 t77 rfl dX11_notes_68 ?_
      refine G_iload_n C dX11_notes_71 rfl 1 rfl ?_
      refine G_chk (fun h3 => ?_)
      refine G_ald C t81 h3 dX11_notes_72 ?_
      refine G_chk (fun h4 => ?_)
      refine G_ast C t82 h4 dX11_notes_73 ?_
      refine G_lts (fun σ5 => ?_)
      refine G_iinc C dX11_notes_74 1 rfl (v := (x1 + (1 : Int32))) (by rfl) rfl (lv' := [(1, .int (x1 + (1 : Int32))), (0, .ref (g_b X + 77))]) rfl ?_
      refine G_ltv (fun v => [(1, .int v), (0, .ref (g_b X + 77))]) (fun v6 => ?_)
      refine G_goto C dX11_notes_77 (tgt := 48) (by decide) ?_
      exact G_sub (ih v6 σ5) [1, 0] rfl
set_option maxHeartbeats 4000000 in
set_option maxRecDepth 100000 in
theorem w_m_X11_notes_46 {X : g_X (g_St)} (C : g_C X cX11_notes RX11 wsX11_notes rm_m_X11_notes 2) (q : g_qV X) (hA : g_ag L_m_X11_notes (g_n X) (g_T X)) (N : Nat) (σ : g_St) : G X 46 [(0, .ref (g_b X + 77))] [] σ (m_X11_notes_46 N σ) := by
  unfold m_X11_notes_46
  refine G_iconst C dX11_notes_46 (v := 0) (by decide +kernel) ?_
  refine G_istore_n C dX11_notes_47 rfl rfl (lv' := [(1, .int (0 : Int32)), (0, .ref (g_b X + 77))]) rfl ?_
  exact G_sub (w_m_X11_notes_48 C q hA N N (0 : Int32) σ) [1, 0] rfl
set_option maxHeartbeats 4000000 in
set_option maxRecDepth 100000 in
theorem w_m_X11_notes_12 {X : g_X (g_St)} (C : g_C X cX11_notes RX11 wsX11_notes rm_m_X11_notes 2) (q : g_qV X) (hA : g_ag L_m_X11_notes (g_n X) (g_T X)) (N : Nat) : ∀ (fu : Nat) (x1 : Int32) (σ : g_St), G X 12 [(0, .ref (g_b X + 77)), (1, .int x1)] [] σ (m_X11_notes_12 N fu x1 σ) := by
  have t77 := g_ag_at hA (c := 77) rfl tc77
  have t82 := g_ag_at hA (c := 82) rfl tc82
  intro fu
  induction fu with
  | zero => intro x1 σ; exact G_none
  | succ fu ih =>
    intro x1 σ
    unfold m_X11_notes_12
    refine G_iload_n C dX11_notes_12 rfl 1 rfl ?_
    refine G_sipush C dX11_notes_13 (v := 1170) (by decide +kernel) ?_
    refine G_icmp_ge C dX11_notes_16 (tgt := 40) (by decide) (fun c1 => ?_) (fun c1 => ?_)
    · refine G_aload_n C dX11_notes_40 rfl 0 rfl ?_
      refine G_bipush C dX11_notes_41 (v := 29) (by decide +kernel) ?_
      refine G_putI C p_X11_notes_119 t77 rfl rfl rfl dX11_notes_43 ?_
      refine G_lts (fun σ2 => ?_)
      exact G_sub (w_m_X11_notes_46 C q hA N σ2) [0] rfl
    · refine G_aload_n C dX11_notes_19 rfl 0 rfl ?_
      refine G_getR C f_X11_notes_22 t77 rfl dX11_notes_20 ?_
      refine G_iload_n C dX11_notes_23 rfl 1 rfl ?_
      refine G_bipush C dX11_notes_24 (v := 39) (by decide +kernel) ?_
      refine G_isub C dX11_notes_26 ?_
      refine G_aload_n C dX11_notes_27 rfl 0 rfl ?_
      refine G_getR C f_X11_notes_22 t77 rfl dX11_notes_28 ?_
      refine G_iload_n C dX11_notes_31 rfl 1 rfl ?_
      refine G_chk (fun h3 => ?_)
      refine G_ald C t82 h3 dX11_notes_32 ?_
      refine G_chk (fun h4 => ?_)
      refine G_ast C t82 h4 dX11_notes_33 ?_
      refine G_lts (fun σ5 => ?_)
      refine G_iinc C dX11_notes_34 1 rfl (v := (x1 + (1 : Int32))) (by rfl) rfl (lv' := [(1, .int (x1 + (1 : Int32))), (0, .ref (g_b X + 77))]) rfl ?_
      refine G_ltv (fun v => [(1, .int v), (0, .ref (g_b X + 77))]) (fun v6 => ?_)
      refine G_goto C dX11_notes_37 (tgt := 12) (by decide) ?_
      exact G_sub (ih v6 σ5) [1, 0] rfl
set_option maxHeartbeats 4000000 in
set_option maxRecDepth 100000 in
theorem w_m_X11_notes_0 {X : g_X (g_St)} (C : g_C X cX11_notes RX11 wsX11_notes rm_m_X11_notes 2) (q : g_qV X) (hA : g_ag L_m_X11_notes (g_n X) (g_T X)) (N : Nat) (σ : g_St) : G X 0 [(0, .ref (g_b X + 77))] [] σ (m_X11_notes N σ) := by
  have t77 := g_ag_at hA (c := 77) rfl tc77
  unfold m_X11_notes
  refine G_aload_n C dX11_notes_0 rfl 0 rfl ?_
  refine G_getI C f_X11_notes_119 t77 rfl dX11_notes_1 ?_
  refine G_bipush C dX11_notes_4 (v := 30) (by decide +kernel) ?_
  refine G_icmp_ne C dX11_notes_6 (tgt := 46) (by decide) (fun c1 => ?_) (fun c1 => ?_)
  · refine G_bipush C dX11_notes_9 (v := 39) (by decide +kernel) ?_
    refine G_istore_n C dX11_notes_11 rfl rfl (lv' := [(1, .int (39 : Int32)), (0, .ref (g_b X + 77))]) rfl ?_
    exact G_sub (w_m_X11_notes_12 C q hA N N (39 : Int32) σ) [1, 0] rfl
  · exact w_m_X11_notes_46 C q hA N σ
theorem k_m_X11_notes (l : Launch) (E : g_E) (n : Nat) (T : Nat → g_Sh) (hA : g_ag L_m_X11_notes n T) (N : Nat) (σ : g_St) (a : g_St) (h : m_X11_notes N σ = some a) : Met l yX11_notes wsX11_notes rm_m_X11_notes (g_Pc E n T [.ref (E.2.1 + 77)] σ) (g_Qv E n T a) 0 0 (g_A E) :=
  g_metV (by decide +kernel) rfl rfl (Nat.le_of_ble_eq_true rfl) (fun M Qf C q => by rw [← h]; exact w_m_X11_notes_0 C q hA N σ)
def L_m_X11_draws : List Nat := [77, 79, 81]
abbrev rm_m_X11_draws : Room := { frames := 1, cells := 0, slots := 0, locals := 22 }
theorem f_X11_draws_13 : g_Fld wsX11_draws RX11 13 11 1 := ⟨RX11, TX11, 27, rfl, by decide +kernel, by decide, by decide +kernel⟩
theorem f_X11_draws_19 : g_Fld wsX11_draws RX11 19 11 7 := ⟨RX11, TX11, 27, rfl, by decide +kernel, by decide, by decide +kernel⟩
set_option maxHeartbeats 4000000 in
set_option maxRecDepth 100000 in
theorem w_m_X11_draws_151 {X : g_X (g_St)} (C : g_C X cX11_draws RX11 wsX11_draws rm_m_X11_draws 4) (q : g_qV X) (hA : g_ag L_m_X11_draws (g_n X) (g_T X)) (σ : g_St) : G X 151 [(0, .ref (g_b X + 77))] [] σ (m_X11_draws_151 σ) := by
  have t77 := g_ag_at hA (c := 77) rfl tc77
  have t81 := g_ag_at hA (c := 81) rfl tc81
  unfold m_X11_draws_151
  refine G_aload_n C dX11_draws_151 rfl 0 rfl ?_
  refine G_getR C f_X11_draws_19 t77 rfl dX11_draws_152 ?_
  refine G_iconst C dX11_draws_155 (v := 2) (by decide +kernel) ?_
  refine G_aload_n C dX11_draws_156 rfl 0 rfl ?_
  refine G_callI (rest := [.int (2 : Int32), .ref (g_b X + 81)]) (fun a ha => g_runV C (nargs := 0) (As := []) (rest := [.int (2 : Int32), .ref (g_b X + 81)]) gX11_draws_X11_all rfl (by decide +kernel) rfl t77 rfl rfl rfl rfl dX11_draws_157 (k_m_X11_all X.1.2.1 X.2.1 (g_n X) (g_T X) (g_ag_sub hA (by decide +kernel)) σ a ha)) (fun q1 => ?_)
  refine G_astk C t81 (by decide +kernel) (k := 2) rfl dX11_draws_160 ?_
  refine G_lts (fun σ2 => ?_)
  refine G_aload_n C dX11_draws_161 rfl 0 rfl ?_
  refine G_getR C f_X11_draws_19 t77 rfl dX11_draws_162 ?_
  refine G_iconst C dX11_draws_165 (v := 0) (by decide +kernel) ?_
  refine G_dup2 C dX11_draws_166 rfl rfl ?_
  refine G_aldk C t81 (by decide +kernel) (k := 0) rfl dX11_draws_167 ?_
  refine G_iconst C dX11_draws_168 (v := 1) (by decide +kernel) ?_
  refine G_iadd C dX11_draws_169 ?_
  refine G_astk C t81 (by decide +kernel) (k := 0) rfl dX11_draws_170 ?_
  refine G_lts (fun σ3 => ?_)
  refine G_aload_n C dX11_draws_171 rfl 0 rfl ?_
  refine G_getR C f_X11_draws_19 t77 rfl dX11_draws_172 ?_
  refine G_iconst C dX11_draws_175 (v := 1) (by decide +kernel) ?_
  refine G_iconst C dX11_draws_176 (v := 0) (by decide +kernel) ?_
  refine G_astk C t81 (by decide +kernel) (k := 1) rfl dX11_draws_177 ?_
  refine G_lts (fun σ4 => ?_)
  exact G_vret C q dX11_draws_178
set_option maxHeartbeats 4000000 in
set_option maxRecDepth 100000 in
theorem w_m_X11_draws_115 {X : g_X (g_St)} (C : g_C X cX11_draws RX11 wsX11_draws rm_m_X11_draws 4) (q : g_qV X) (hA : g_ag L_m_X11_draws (g_n X) (g_T X)) (s1 : Int32) (s2 : Int32) (s3 : Int32) (σ : g_St) : G X 115 [(0, .ref (g_b X + 77))] [.int s3, .int s2, .int s1, .ref (g_b X + 81)] σ (m_X11_draws_115 s1 s2 s3 σ) := by
  have t77 := g_ag_at hA (c := 77) rfl tc77
  have t79 := g_ag_at hA (c := 79) rfl tc79
  have t81 := g_ag_at hA (c := 81) rfl tc81
  unfold m_X11_draws_115
  refine G_iand C dX11_draws_115 ?_
  refine G_chk (fun h1 => ?_)
  refine G_ast C t81 h1 dX11_draws_116 ?_
  refine G_lts (fun σ2 => ?_)
  refine G_aload_n C dX11_draws_117 rfl 0 rfl ?_
  refine G_getR C f_X11_draws_19 t77 rfl dX11_draws_118 ?_
  refine G_iconst C dX11_draws_121 (v := 1) (by decide +kernel) ?_
  refine G_dup2 C dX11_draws_122 rfl rfl ?_
  refine G_aldk C t81 (by decide +kernel) (k := 1) rfl dX11_draws_123 ?_
  refine G_iconst C dX11_draws_124 (v := 1) (by decide +kernel) ?_
  refine G_iadd C dX11_draws_125 ?_
  refine G_astk C t81 (by decide +kernel) (k := 1) rfl dX11_draws_126 ?_
  refine G_lts (fun σ3 => ?_)
  refine G_aload_n C dX11_draws_127 rfl 0 rfl ?_
  refine G_getR C f_X11_draws_19 t77 rfl dX11_draws_128 ?_
  refine G_iconst C dX11_draws_131 (v := 1) (by decide +kernel) ?_
  refine G_aldk C t81 (by decide +kernel) (k := 1) rfl dX11_draws_132 ?_
  refine G_aload_n C dX11_draws_133 rfl 0 rfl ?_
  refine G_getR C f_X11_draws_13 t77 rfl dX11_draws_134 ?_
  refine G_iconst C dX11_draws_137 (v := 2) (by decide +kernel) ?_
  refine G_aldk C t79 (by decide +kernel) (k := 2) rfl dX11_draws_138 ?_
  refine G_icmp_eq C dX11_draws_139 (tgt := 151) (by decide) (fun c4 => ?_) (fun c4 => ?_)
  · exact w_m_X11_draws_151 C q hA σ3
  · refine G_aload_n C dX11_draws_142 rfl 0 rfl ?_
    refine G_getR C f_X11_draws_19 t77 rfl dX11_draws_143 ?_
    refine G_iconst C dX11_draws_146 (v := 2) (by decide +kernel) ?_
    refine G_aldk C t81 (by decide +kernel) (k := 2) rfl dX11_draws_147 ?_
    refine G_if_ne C dX11_draws_148 (tgt := 178) (by decide) (fun c5 => ?_) (fun c5 => ?_)
    · exact w_m_X11_draws_151 C q hA σ3
    · exact G_vret C q dX11_draws_178
set_option maxHeartbeats 4000000 in
set_option maxRecDepth 100000 in
theorem w_m_X11_draws_93 {X : g_X (g_St)} (C : g_C X cX11_draws RX11 wsX11_draws rm_m_X11_draws 4) (q : g_qV X) (hA : g_ag L_m_X11_draws (g_n X) (g_T X)) (x1 : Int32) (x2 : Int32) (s1 : Int32) (s2 : Int32) (σ : g_St) : G X 93 [(0, .ref (g_b X + 77)), (1, .int x1), (2, .int x2)] [.int s2, .int s1, .ref (g_b X + 81)] σ (m_X11_draws_93 x1 x2 s1 s2 σ) := by
  have t77 := g_ag_at hA (c := 77) rfl tc77
  have t81 := g_ag_at hA (c := 81) rfl tc81
  unfold m_X11_draws_93
  refine G_chk (fun h1 => ?_)
  refine G_ast C t81 h1 dX11_draws_93 ?_
  refine G_lts (fun σ2 => ?_)
  refine G_aload_n C dX11_draws_94 rfl 0 rfl ?_
  refine G_getR C f_X11_draws_19 t77 rfl dX11_draws_95 ?_
  refine G_iconst C dX11_draws_98 (v := 2) (by decide +kernel) ?_
  refine G_dup2 C dX11_draws_99 rfl rfl ?_
  refine G_aldk C t81 (by decide +kernel) (k := 2) rfl dX11_draws_100 ?_
  refine G_iload_n C dX11_draws_101 rfl 2 rfl ?_
  refine G_iconst C dX11_draws_102 (v := 1) (by decide +kernel) ?_
  refine G_icmp_ne C dX11_draws_103 (tgt := 110) (by decide) (fun c3 => ?_) (fun c3 => ?_)
  · refine G_iconst C dX11_draws_106 (v := -1) (by decide +kernel) ?_
    refine G_goto C dX11_draws_107 (tgt := 115) (by decide) ?_
    exact G_sub (w_m_X11_draws_115 C q hA (2 : Int32) (σ2.1 81 2) (-1 : Int32) σ2) [0] rfl
  · refine G_iconst C dX11_draws_110 (v := 1) (by decide +kernel) ?_
    refine G_iload_n C dX11_draws_111 rfl 1 rfl ?_
    refine G_ishl C dX11_draws_112 ?_
    refine G_iconst C dX11_draws_113 (v := -1) (by decide +kernel) ?_
    refine G_ixor C dX11_draws_114 ?_
    exact G_sub (w_m_X11_draws_115 C q hA (2 : Int32) (σ2.1 81 2) (((1 : Int32) <<< (x1 &&& 31)) ^^^ (-1 : Int32)) σ2) [0] rfl
set_option maxHeartbeats 4000000 in
set_option maxRecDepth 100000 in
theorem w_m_X11_draws_34 {X : g_X (g_St)} (C : g_C X cX11_draws RX11 wsX11_draws rm_m_X11_draws 4) (q : g_qV X) (hA : g_ag L_m_X11_draws (g_n X) (g_T X)) (x1 : Int32) (x2 : Int32) (x3 : Int32) (s1 : Int32) (s2 : Int32) (s3 : Int32) (σ : g_St) : G X 34 [(0, .ref (g_b X + 77)), (1, .int x1), (2, .int x2), (3, .int x3)] [.int s3, .int s2, .int s1, .ref (g_b X + 81)] σ (m_X11_draws_34 x1 x2 x3 s1 s2 s3 σ) := by
  have t77 := g_ag_at hA (c := 77) rfl tc77
  have t81 := g_ag_at hA (c := 81) rfl tc81
  unfold m_X11_draws_34
  refine G_iadd C dX11_draws_34 ?_
  refine G_chk (fun h1 => ?_)
  refine G_ast C t81 h1 dX11_draws_35 ?_
  refine G_lts (fun σ2 => ?_)
  refine G_aload_n C dX11_draws_36 rfl 0 rfl ?_
  refine G_getR C f_X11_draws_19 t77 rfl dX11_draws_37 ?_
  refine G_iload_n C dX11_draws_40 rfl 3 rfl ?_
  refine G_iconst C dX11_draws_41 (v := 1) (by decide +kernel) ?_
  refine G_iadd C dX11_draws_42 ?_
  refine G_lti (fun v3 => ?_)
  refine G_dup2 C dX11_draws_43 rfl rfl ?_
  refine G_chk (fun h4 => ?_)
  refine G_ald C t81 h4 dX11_draws_44 ?_
  refine G_aload_n C dX11_draws_45 rfl 0 rfl ?_
  refine G_getR C f_X11_draws_19 t77 rfl dX11_draws_46 ?_
  refine G_iload_n C dX11_draws_49 rfl 3 rfl ?_
  refine G_chk (fun h5 => ?_)
  refine G_ald C t81 h5 dX11_draws_50 ?_
  refine G_bipush C dX11_draws_51 (v := 10) (by decide +kernel) ?_
  refine G_idiv C dX11_draws_53 (by decide) ?_
  refine G_iconst C dX11_draws_54 (v := 1) (by decide +kernel) ?_
  refine G_iadd C dX11_draws_55 ?_
  refine G_iadd C dX11_draws_56 ?_
  refine G_chk (fun h6 => ?_)
  refine G_ast C t81 h6 dX11_draws_57 ?_
  refine G_lts (fun σ7 => ?_)
  refine G_aload_n C dX11_draws_58 rfl 0 rfl ?_
  refine G_getR C f_X11_draws_19 t77 rfl dX11_draws_59 ?_
  refine G_iload_n C dX11_draws_62 rfl 3 rfl ?_
  refine G_iconst C dX11_draws_63 (v := 1) (by decide +kernel) ?_
  refine G_iadd C dX11_draws_64 ?_
  refine G_aload_n C dX11_draws_65 rfl 0 rfl ?_
  refine G_getR C f_X11_draws_19 t77 rfl dX11_draws_66 ?_
  refine G_iload_n C dX11_draws_69 rfl 3 rfl ?_
  refine G_iconst C dX11_draws_70 (v := 1) (by decide +kernel) ?_
  refine G_iadd C dX11_draws_71 ?_
  refine G_chk (fun h8 => ?_)
  refine G_ald C t81 h8 dX11_draws_72 ?_
  refine G_sipush C dX11_draws_73 (v := 9999) (by decide +kernel) ?_
  refine G_icmp_le C dX11_draws_76 (tgt := 85) (by decide) (fun c9 => ?_) (fun c9 => ?_)
  · refine G_aload_n C dX11_draws_85 rfl 0 rfl ?_
    refine G_getR C f_X11_draws_19 t77 rfl dX11_draws_86 ?_
    refine G_iload_n C dX11_draws_89 rfl 3 rfl ?_
    refine G_iconst C dX11_draws_90 (v := 1) (by decide +kernel) ?_
    refine G_iadd C dX11_draws_91 ?_
    refine G_chk (fun h10 => ?_)
    refine G_ald C t81 h10 dX11_draws_92 ?_
    exact G_sub (w_m_X11_draws_93 C q hA x1 x2 (x3 + (1 : Int32)) (σ7.1 81 (x3 + (1 : Int32)).toNatClampNeg) σ7) [0, 1, 2] rfl
  · refine G_sipush C dX11_draws_79 (v := 9999) (by decide +kernel) ?_
    refine G_goto C dX11_draws_82 (tgt := 93) (by decide) ?_
    exact G_sub (w_m_X11_draws_93 C q hA x1 x2 (x3 + (1 : Int32)) (9999 : Int32) σ7) [0, 1, 2] rfl
set_option maxHeartbeats 4000000 in
set_option maxRecDepth 100000 in
theorem w_m_X11_draws_0 {X : g_X (g_St)} (C : g_C X cX11_draws RX11 wsX11_draws rm_m_X11_draws 4) (q : g_qV X) (hA : g_ag L_m_X11_draws (g_n X) (g_T X)) (x1 : Int32) (x2 : Int32) (σ : g_St) : G X 0 [(0, .ref (g_b X + 77)), (1, .int x1), (2, .int x2)] [] σ (m_X11_draws x1 x2 σ) := by
  have t77 := g_ag_at hA (c := 77) rfl tc77
  have t81 := g_ag_at hA (c := 81) rfl tc81
  unfold m_X11_draws
  refine G_iconst C dX11_draws_0 (v := 3) (by decide +kernel) ?_
  refine G_iconst C dX11_draws_1 (v := 2) (by decide +kernel) ?_
  refine G_aload_n C dX11_draws_2 rfl 0 rfl ?_
  refine G_iload_n C dX11_draws_3 rfl 1 rfl ?_
  refine G_callI (rest := [.int (2 : Int32), .int (3 : Int32)]) (fun a ha => g_runV C (nargs := 1) (As := [.int x1]) (rest := [.int (2 : Int32), .int (3 : Int32)]) gX11_draws_X11_who rfl (by decide +kernel) rfl t77 rfl rfl rfl rfl dX11_draws_4 (k_m_X11_who X.1.2.1 X.2.1 (g_n X) (g_T X) (g_ag_sub hA (by decide +kernel)) x1 σ a ha)) (fun q1 => ?_)
  refine G_imul C dX11_draws_7 ?_
  refine G_iadd C dX11_draws_8 ?_
  refine G_lti (fun v2 => ?_)
  refine G_istore_n C dX11_draws_9 rfl rfl (lv' := [(3, .int v2), (0, .ref (g_b X + 77)), (1, .int x1), (2, .int x2)]) rfl ?_
  refine G_aload_n C dX11_draws_10 rfl 1 rfl ?_
  refine G_getR C f_X11_draws_19 t77 rfl dX11_draws_11 ?_
  refine G_iload_n C dX11_draws_14 rfl 0 rfl ?_
  refine G_dup2 C dX11_draws_15 rfl rfl ?_
  refine G_chk (fun h3 => ?_)
  refine G_ald C t81 h3 dX11_draws_16 ?_
  refine G_aload_n C dX11_draws_17 rfl 1 rfl ?_
  refine G_getR C f_X11_draws_19 t77 rfl dX11_draws_18 ?_
  refine G_iload_n C dX11_draws_21 rfl 0 rfl ?_
  refine G_chk (fun h4 => ?_)
  refine G_ald C t81 h4 dX11_draws_22 ?_
  refine G_sipush C dX11_draws_23 (v := 999) (by decide +kernel) ?_
  refine G_icmp_ge C dX11_draws_26 (tgt := 33) (by decide) (fun c5 => ?_) (fun c5 => ?_)
  · refine G_iconst C dX11_draws_33 (v := 0) (by decide +kernel) ?_
    exact G_sub (w_m_X11_draws_34 C q hA x1 x2 v2 v2 (q1.2.1 81 v2.toNatClampNeg) (0 : Int32) q1.2) [1, 2, 3, 0] rfl
  · refine G_iconst C dX11_draws_29 (v := 1) (by decide +kernel) ?_
    refine G_goto C dX11_draws_30 (tgt := 34) (by decide) ?_
    exact G_sub (w_m_X11_draws_34 C q hA x1 x2 v2 v2 (q1.2.1 81 v2.toNatClampNeg) (1 : Int32) q1.2) [1, 2, 3, 0] rfl
theorem k_m_X11_draws (l : Launch) (E : g_E) (n : Nat) (T : Nat → g_Sh) (hA : g_ag L_m_X11_draws n T) (x1 : Int32) (x2 : Int32) (σ : g_St) (a : g_St) (h : m_X11_draws x1 x2 σ = some a) : Met l yX11_draws wsX11_draws rm_m_X11_draws (g_Pc E n T [.ref (E.2.1 + 77), .int x1, .int x2] σ) (g_Qv E n T a) 0 0 (g_A E) :=
  g_metV (by decide +kernel) rfl rfl (Nat.le_of_ble_eq_true rfl) (fun M Qf C q => by rw [← h]; exact w_m_X11_draws_0 C q hA x1 x2 σ)
def L_m_X11_draw : List Nat := [77, 79, 81, 82]
abbrev rm_m_X11_draw : Room := { frames := 2, cells := 0, slots := 0, locals := 46 }
theorem f_X11_draw_13 : g_Fld wsX11_draw RX11 13 11 1 := ⟨RX11, TX11, 27, rfl, by decide +kernel, by decide, by decide +kernel⟩
theorem f_X11_draw_19 : g_Fld wsX11_draw RX11 19 11 7 := ⟨RX11, TX11, 27, rfl, by decide +kernel, by decide, by decide +kernel⟩
theorem c_X11_draw_139 : Cond.constant RX11 139 (-1000000001) ∈ wsX11_draw := by decide +kernel
theorem c_X11_draw_151 : Cond.constant RX11 151 (-1000000003) ∈ wsX11_draw := by decide +kernel
theorem c_X11_draw_152 : Cond.constant RX11 152 (90000) ∈ wsX11_draw := by decide +kernel
theorem c_X11_draw_75 : Cond.constant RX11 75 (-1000000004) ∈ wsX11_draw := by decide +kernel
set_option maxHeartbeats 4000000 in
set_option maxRecDepth 100000 in
theorem w_m_X11_draw_0 {X : g_X (Int32 × g_St)} (C : g_C X cX11_draw RX11 wsX11_draw rm_m_X11_draw 2) (q : g_qI X) (hA : g_ag L_m_X11_draw (g_n X) (g_T X)) (N : Nat) (x1 : Int32) (σ : g_St) : G X 0 [(0, .ref (g_b X + 77)), (1, .int x1)] [] σ (m_X11_draw N x1 σ) := by
  have t77 := g_ag_at hA (c := 77) rfl tc77
  have t79 := g_ag_at hA (c := 79) rfl tc79
  have t81 := g_ag_at hA (c := 81) rfl tc81
  unfold m_X11_draw
  refine G_aload_n C dX11_draw_0 rfl 0 rfl ?_
  refine G_iload_n C dX11_draw_1 rfl 1 rfl ?_
  refine G_callI (rest := []) (fun a ha => g_runV C (nargs := 1) (As := [.int x1]) (rest := []) gX11_draw_X11_isTicket rfl (by decide +kernel) rfl t77 rfl rfl rfl rfl dX11_draw_2 (k_m_X11_isTicket X.1.2.1 X.2.1 (g_n X) (g_T X) (g_ag_sub hA (by decide +kernel)) x1 σ a ha)) (fun q1 => ?_)
  refine G_if_ne C dX11_draw_5 (tgt := 11) (by decide) (fun c2 => ?_) (fun c2 => ?_)
  · refine G_ldc C dX11_draw_8 c_X11_draw_139 ?_
    exact G_iret C q dX11_draw_10
  · refine G_aload_n C dX11_draw_11 rfl 0 rfl ?_
    refine G_getR C f_X11_draw_19 t77 rfl dX11_draw_12 ?_
    refine G_iconst C dX11_draw_15 (v := 2) (by decide +kernel) ?_
    refine G_aldk C t81 (by decide +kernel) (k := 2) rfl dX11_draw_16 ?_
    refine G_iload_n C dX11_draw_17 rfl 1 rfl ?_
    refine G_ishr C dX11_draw_18 ?_
    refine G_iconst C dX11_draw_19 (v := 1) (by decide +kernel) ?_
    refine G_iand C dX11_draw_20 ?_
    refine G_if_ne C dX11_draw_21 (tgt := 27) (by decide) (fun c3 => ?_) (fun c3 => ?_)
    · refine G_ldc C dX11_draw_24 c_X11_draw_151 ?_
      exact G_iret C q dX11_draw_26
    · refine G_aload_n C dX11_draw_27 rfl 0 rfl ?_
      refine G_getR C f_X11_draw_19 t77 rfl dX11_draw_28 ?_
      refine G_iconst C dX11_draw_31 (v := 0) (by decide +kernel) ?_
      refine G_aldk C t81 (by decide +kernel) (k := 0) rfl dX11_draw_32 ?_
      refine G_ldc C dX11_draw_33 c_X11_draw_152 ?_
      refine G_icmp_le C dX11_draw_35 (tgt := 41) (by decide) (fun c4 => ?_) (fun c4 => ?_)
      · refine G_aload_n C dX11_draw_41 rfl 0 rfl ?_
        refine G_callV (rest := []) (fun a ha => g_runV C (nargs := 0) (As := []) (rest := []) gX11_draw_X11_notes rfl (by decide +kernel) rfl t77 rfl rfl rfl rfl dX11_draw_42 (k_m_X11_notes X.1.2.1 X.2.1 (g_n X) (g_T X) (g_ag_sub hA (by decide +kernel)) N q1.2 a ha)) (fun σ5 => ?_)
        refine G_aload_n C dX11_draw_45 rfl 0 rfl ?_
        refine G_iload_n C dX11_draw_46 rfl 1 rfl ?_
        refine G_aload_n C dX11_draw_47 rfl 0 rfl ?_
        refine G_getR C f_X11_draw_13 t77 rfl dX11_draw_48 ?_
        refine G_iconst C dX11_draw_51 (v := 3) (by decide +kernel) ?_
        refine G_aldk C t79 (by decide +kernel) (k := 3) rfl dX11_draw_52 ?_
        refine G_callV (rest := []) (fun a ha => g_runV C (nargs := 2) (As := [.int x1, .int (σ5.1 79 3)]) (rest := []) gX11_draw_X11_draws rfl (by decide +kernel) rfl t77 rfl rfl rfl rfl dX11_draw_53 (k_m_X11_draws X.1.2.1 X.2.1 (g_n X) (g_T X) (g_ag_sub hA (by decide +kernel)) x1 (σ5.1 79 3) σ5 a ha)) (fun σ6 => ?_)
        refine G_aload_n C dX11_draw_56 rfl 0 rfl ?_
        refine G_iload_n C dX11_draw_57 rfl 1 rfl ?_
        refine G_callI (rest := []) (fun a ha => g_runV C (nargs := 1) (As := [.int x1]) (rest := []) gX11_draw_X11_who rfl (by decide +kernel) rfl t77 rfl rfl rfl rfl dX11_draw_58 (k_m_X11_who X.1.2.1 X.2.1 (g_n X) (g_T X) (g_ag_sub hA (by decide +kernel)) x1 σ6 a ha)) (fun q7 => ?_)
        exact G_iret C q dX11_draw_61
      · refine G_ldc C dX11_draw_38 c_X11_draw_75 ?_
        exact G_iret C q dX11_draw_40
theorem k_m_X11_draw (l : Launch) (E : g_E) (n : Nat) (T : Nat → g_Sh) (hA : g_ag L_m_X11_draw n T) (N : Nat) (x1 : Int32) (σ : g_St) (a : Int32 × g_St) (h : m_X11_draw N x1 σ = some a) : Met l yX11_draw wsX11_draw rm_m_X11_draw (g_Pc E n T [.ref (E.2.1 + 77), .int x1] σ) (g_Qi E n T a) 0 0 (g_A E) :=
  g_metI (by decide +kernel) rfl rfl (Nat.le_of_ble_eq_true rfl) (fun M Qf C q => by rw [← h]; exact w_m_X11_draw_0 C q hA N x1 σ)
def L_m_X11_lot : List Nat := [77, 79, 81]
abbrev rm_m_X11_lot : Room := { frames := 2, cells := 0, slots := 0, locals := 44 }
theorem f_X11_lot_159 : g_Fld wsX11_lot RX11 159 11 8 := ⟨RX11, TX11, 27, rfl, by decide +kernel, by decide, by decide +kernel⟩
theorem f_X11_lot_19 : g_Fld wsX11_lot RX11 19 11 7 := ⟨RX11, TX11, 27, rfl, by decide +kernel, by decide, by decide +kernel⟩
theorem p_X11_lot_159 : g_FldP wsX11_lot RX11 159 11 8 .int := ⟨RX11, TX11, 27, tyX11, rfl, by decide +kernel, by decide, by decide +kernel, tyX11_ok, nmX11, rfl, by decide +kernel⟩
theorem c_X11_lot_162 : Cond.constantLong RX11 162 (1103515245) ∈ wsX11_lot := by decide +kernel
theorem c_X11_lot_164 : Cond.constantLong RX11 164 (12345) ∈ wsX11_lot := by decide +kernel
theorem c_X11_lot_166 : Cond.constantLong RX11 166 (2147483648) ∈ wsX11_lot := by decide +kernel
theorem c_X11_lot_168 : Cond.constant RX11 168 (65536) ∈ wsX11_lot := by decide +kernel
set_option maxHeartbeats 4000000 in
set_option maxRecDepth 100000 in
theorem w_m_X11_lot_89 {X : g_X (Int32 × g_St)} (C : g_C X cX11_lot RX11 wsX11_lot rm_m_X11_lot 3) (q : g_qI X) (hA : g_ag L_m_X11_lot (g_n X) (g_T X)) (k43 : Int32 → Int32 → g_St → Option (Int32 × g_St)) (hk43 : ∀ (x1 : Int32) (x2 : Int32) (σ : g_St), G X 43 [(0, .ref (g_b X + 77)), (1, .int x1), (2, .int x2)] [] σ (k43 x1 x2 σ)) (N : Nat) (x2 : Int32) (s0 : Int32) (s1 : Int32) (σ : g_St) : G X 89 [(0, .ref (g_b X + 77)), (2, .int x2)] [.int s1, .int s0] σ (m_X11_lot_89 k43 N x2 s0 s1 σ) := by
  unfold m_X11_lot_89
  refine G_isub C dX11_lot_89 ?_
  refine G_lti (fun v1 => ?_)
  refine G_istore_n C dX11_lot_90 rfl rfl (lv' := [(1, .int v1), (0, .ref (g_b X + 77)), (2, .int x2)]) rfl ?_
  refine G_iinc C dX11_lot_91 2 rfl (v := (x2 + (1 : Int32))) (by rfl) rfl (lv' := [(2, .int (x2 + (1 : Int32))), (1, .int v1), (0, .ref (g_b X + 77))]) rfl ?_
  refine G_ltv (fun v => [(2, .int v), (1, .int v1), (0, .ref (g_b X + 77))]) (fun v2 => ?_)
  refine G_goto C dX11_lot_94 (tgt := 43) (by decide) ?_
  exact G_sub (hk43 v1 v2 σ) [2, 1, 0] rfl
set_option maxHeartbeats 4000000 in
set_option maxRecDepth 100000 in
theorem w_m_X11_lot_65 {X : g_X (Int32 × g_St)} (C : g_C X cX11_lot RX11 wsX11_lot rm_m_X11_lot 3) (q : g_qI X) (hA : g_ag L_m_X11_lot (g_n X) (g_T X)) (k43 : Int32 → Int32 → g_St → Option (Int32 × g_St)) (hk43 : ∀ (x1 : Int32) (x2 : Int32) (σ : g_St), G X 43 [(0, .ref (g_b X + 77)), (1, .int x1), (2, .int x2)] [] σ (k43 x1 x2 σ)) (N : Nat) (x1 : Int32) (x2 : Int32) (σ : g_St) : G X 65 [(0, .ref (g_b X + 77)), (1, .int x1), (2, .int x2)] [] σ (m_X11_lot_65 k43 N x1 x2 σ) := by
  have t77 := g_ag_at hA (c := 77) rfl tc77
  have t81 := g_ag_at hA (c := 81) rfl tc81
  unfold m_X11_lot_65
  refine G_iload_n C dX11_lot_65 rfl 1 rfl ?_
  refine G_aload_n C dX11_lot_66 rfl 0 rfl ?_
  refine G_getR C f_X11_lot_19 t77 rfl dX11_lot_67 ?_
  refine G_iconst C dX11_lot_70 (v := 2) (by decide +kernel) ?_
  refine G_aldk C t81 (by decide +kernel) (k := 2) rfl dX11_lot_71 ?_
  refine G_iload_n C dX11_lot_72 rfl 2 rfl ?_
  refine G_ishr C dX11_lot_73 ?_
  refine G_iconst C dX11_lot_74 (v := 1) (by decide +kernel) ?_
  refine G_iand C dX11_lot_75 ?_
  refine G_iconst C dX11_lot_76 (v := 1) (by decide +kernel) ?_
  refine G_icmp_ne C dX11_lot_77 (tgt := 88) (by decide) (fun c1 => ?_) (fun c1 => ?_)
  · refine G_aload_n C dX11_lot_80 rfl 0 rfl ?_
    refine G_iload_n C dX11_lot_81 rfl 2 rfl ?_
    refine G_callI (rest := [.int x1]) (fun a ha => g_runV C (nargs := 1) (As := [.int x2]) (rest := [.int x1]) gX11_lot_X11_weight rfl (by decide +kernel) rfl t77 rfl rfl rfl rfl dX11_lot_82 (k_m_X11_weight X.1.2.1 X.2.1 (g_n X) (g_T X) (g_ag_sub hA (by decide +kernel)) x2 σ a ha)) (fun q2 => ?_)
    refine G_goto C dX11_lot_85 (tgt := 89) (by decide) ?_
    exact G_sub (w_m_X11_lot_89 C q hA k43 hk43 N x2 x1 q2.1 q2.2) [0, 2] rfl
  · refine G_iconst C dX11_lot_88 (v := 0) (by decide +kernel) ?_
    exact G_sub (w_m_X11_lot_89 C q hA k43 hk43 N x2 x1 (0 : Int32) σ) [0, 2] rfl
set_option maxHeartbeats 4000000 in
set_option maxRecDepth 100000 in
theorem w_m_X11_lot_43 {X : g_X (Int32 × g_St)} (C : g_C X cX11_lot RX11 wsX11_lot rm_m_X11_lot 3) (q : g_qI X) (hA : g_ag L_m_X11_lot (g_n X) (g_T X)) (N : Nat) : ∀ (fu : Nat) (x1 : Int32) (x2 : Int32) (σ : g_St), G X 43 [(0, .ref (g_b X + 77)), (1, .int x1), (2, .int x2)] [] σ (m_X11_lot_43 N fu x1 x2 σ) := by
  have t77 := g_ag_at hA (c := 77) rfl tc77
  have t81 := g_ag_at hA (c := 81) rfl tc81
  intro fu
  induction fu with
  | zero => intro x1 x2 σ; exact G_none
  | succ fu ih =>
    intro x1 x2 σ
    unfold m_X11_lot_43
    refine G_aload_n C dX11_lot_43 rfl 0 rfl ?_
    refine G_getR C f_X11_lot_19 t77 rfl dX11_lot_44 ?_
    refine G_iconst C dX11_lot_47 (v := 2) (by decide +kernel) ?_
    refine G_aldk C t81 (by decide +kernel) (k := 2) rfl dX11_lot_48 ?_
    refine G_iload_n C dX11_lot_49 rfl 2 rfl ?_
    refine G_ishr C dX11_lot_50 ?_
    refine G_iconst C dX11_lot_51 (v := 1) (by decide +kernel) ?_
    refine G_iand C dX11_lot_52 ?_
    refine G_if_eq C dX11_lot_53 (tgt := 65) (by decide) (fun c1 => ?_) (fun c1 => ?_)
    · exact w_m_X11_lot_65 C q hA (m_X11_lot_43 N fu) ih N x1 x2 σ
    · refine G_iload_n C dX11_lot_56 rfl 1 rfl ?_
      refine G_aload_n C dX11_lot_57 rfl 0 rfl ?_
      refine G_iload_n C dX11_lot_58 rfl 2 rfl ?_
      refine G_callI (rest := [.int x1]) (fun a ha => g_runV C (nargs := 1) (As := [.int x2]) (rest := [.int x1]) gX11_lot_X11_weight rfl (by decide +kernel) rfl t77 rfl rfl rfl rfl dX11_lot_59 (k_m_X11_weight X.1.2.1 X.2.1 (g_n X) (g_T X) (g_ag_sub hA (by decide +kernel)) x2 σ a ha)) (fun q2 => ?_)
      refine G_icmp_lt C dX11_lot_62 (tgt := 97) (by decide) (fun c3 => ?_) (fun c3 => ?_)
      · refine G_iload_n C dX11_lot_97 rfl 2 rfl ?_
        exact G_iret C q dX11_lot_98
      · exact w_m_X11_lot_65 C q hA (m_X11_lot_43 N fu) ih N x1 x2 q2.2
set_option maxHeartbeats 4000000 in
set_option maxRecDepth 100000 in
theorem w_m_X11_lot_0 {X : g_X (Int32 × g_St)} (C : g_C X cX11_lot RX11 wsX11_lot rm_m_X11_lot 3) (q : g_qI X) (hA : g_ag L_m_X11_lot (g_n X) (g_T X)) (N : Nat) (σ : g_St) : G X 0 [(0, .ref (g_b X + 77))] [] σ (m_X11_lot N σ) := by
  have t77 := g_ag_at hA (c := 77) rfl tc77
  have t81 := g_ag_at hA (c := 81) rfl tc81
  unfold m_X11_lot
  refine G_aload_n C dX11_lot_0 rfl 0 rfl ?_
  refine G_aload_n C dX11_lot_1 rfl 0 rfl ?_
  refine G_getI C f_X11_lot_159 t77 rfl dX11_lot_2 ?_
  refine G_i2l C dX11_lot_5 ?_
  refine G_ldc2 C dX11_lot_6 c_X11_lot_162 ?_
  refine G_lmul C dX11_lot_9 ?_
  refine G_ldc2 C dX11_lot_10 c_X11_lot_164 ?_
  refine G_ladd C dX11_lot_13 ?_
  refine G_ldc2 C dX11_lot_14 c_X11_lot_166 ?_
  refine G_lrem C dX11_lot_17 (by decide) ?_
  refine G_l2i C dX11_lot_18 ?_
  refine G_putI C p_X11_lot_159 t77 rfl rfl rfl dX11_lot_19 ?_
  refine G_lts (fun σ1 => ?_)
  refine G_aload_n C dX11_lot_22 rfl 0 rfl ?_
  refine G_getI C f_X11_lot_159 t77 rfl dX11_lot_23 ?_
  refine G_ldc C dX11_lot_26 c_X11_lot_168 ?_
  refine G_idiv C dX11_lot_28 (by decide) ?_
  refine G_aload_n C dX11_lot_29 rfl 0 rfl ?_
  refine G_aload_n C dX11_lot_30 rfl 0 rfl ?_
  refine G_getR C f_X11_lot_19 t77 rfl dX11_lot_31 ?_
  refine G_iconst C dX11_lot_34 (v := 2) (by decide +kernel) ?_
  refine G_aldk C t81 (by decide +kernel) (k := 2) rfl dX11_lot_35 ?_
  refine G_callI (rest := [.int ((σ1.1 77 8) / (65536 : Int32))]) (fun a ha => g_runV C (nargs := 1) (As := [.int (σ1.1 81 2)]) (rest := [.int ((σ1.1 77 8) / (65536 : Int32))]) gX11_lot_X11_weightOf rfl (by decide +kernel) rfl t77 rfl rfl rfl rfl dX11_lot_36 (k_m_X11_weightOf X.1.2.1 X.2.1 (g_n X) (g_T X) (g_ag_sub hA (by decide +kernel)) N (σ1.1 81 2) σ1 a ha)) (fun q2 => ?_)
  refine G_chn (fun h3 => ?_)
  refine G_irem C dX11_lot_39 h3 ?_
  refine G_lti (fun v4 => ?_)
  refine G_istore_n C dX11_lot_40 rfl rfl (lv' := [(1, .int v4), (0, .ref (g_b X + 77))]) rfl ?_
  refine G_iconst C dX11_lot_41 (v := 0) (by decide +kernel) ?_
  refine G_istore_n C dX11_lot_42 rfl rfl (lv' := [(2, .int (0 : Int32)), (1, .int v4), (0, .ref (g_b X + 77))]) rfl ?_
  exact G_sub (w_m_X11_lot_43 C q hA N N v4 (0 : Int32) q2.2) [2, 1, 0] rfl
theorem k_m_X11_lot (l : Launch) (E : g_E) (n : Nat) (T : Nat → g_Sh) (hA : g_ag L_m_X11_lot n T) (N : Nat) (σ : g_St) (a : Int32 × g_St) (h : m_X11_lot N σ = some a) : Met l yX11_lot wsX11_lot rm_m_X11_lot (g_Pc E n T [.ref (E.2.1 + 77)] σ) (g_Qi E n T a) 0 0 (g_A E) :=
  g_metI (by decide +kernel) rfl rfl (Nat.le_of_ble_eq_true rfl) (fun M Qf C q => by rw [← h]; exact w_m_X11_lot_0 C q hA N σ)
def L_m_X11_lots : List Nat := [77, 79, 81, 82]
abbrev rm_m_X11_lots : Room := { frames := 3, cells := 0, slots := 0, locals := 66 }
theorem f_X11_lots_13 : g_Fld wsX11_lots RX11 13 11 1 := ⟨RX11, TX11, 27, rfl, by decide +kernel, by decide, by decide +kernel⟩
theorem f_X11_lots_19 : g_Fld wsX11_lots RX11 19 11 7 := ⟨RX11, TX11, 27, rfl, by decide +kernel, by decide, by decide +kernel⟩
theorem c_X11_lots_151 : Cond.constant RX11 151 (-1000000003) ∈ wsX11_lots := by decide +kernel
theorem c_X11_lots_152 : Cond.constant RX11 152 (90000) ∈ wsX11_lots := by decide +kernel
theorem c_X11_lots_169 : Cond.constantLong RX11 169 (99) ∈ wsX11_lots := by decide +kernel
theorem c_X11_lots_71 : Cond.constant RX11 71 (-1000000002) ∈ wsX11_lots := by decide +kernel
theorem c_X11_lots_75 : Cond.constant RX11 75 (-1000000004) ∈ wsX11_lots := by decide +kernel
set_option maxHeartbeats 4000000 in
set_option maxRecDepth 100000 in
theorem w_m_X11_lots_45 {X : g_X (Int32 × g_St)} (C : g_C X cX11_lots RX11 wsX11_lots rm_m_X11_lots 4) (q : g_qI X) (hA : g_ag L_m_X11_lots (g_n X) (g_T X)) (N : Nat) : ∀ (fu : Nat) (x1 : Int32) (x2 : Int32) (x3 : Int32) (σ : g_St), G X 45 [(0, .ref (g_b X + 77)), (1, .int x1), (2, .int x2), (3, .int x3)] [] σ (m_X11_lots_45 N fu x1 x2 x3 σ) := by
  have t77 := g_ag_at hA (c := 77) rfl tc77
  have t79 := g_ag_at hA (c := 79) rfl tc79
  intro fu
  induction fu with
  | zero => intro x1 x2 x3 σ; exact G_none
  | succ fu ih =>
    intro x1 x2 x3 σ
    unfold m_X11_lots_45
    refine G_iload_n C dX11_lots_45 rfl 3 rfl ?_
    refine G_iload_n C dX11_lots_46 rfl 1 rfl ?_
    refine G_icmp_ge C dX11_lots_47 (tgt := 76) (by decide) (fun c1 => ?_) (fun c1 => ?_)
    · refine G_iload_n C dX11_lots_76 rfl 2 rfl ?_
      exact G_iret C q dX11_lots_77
    · refine G_aload_n C dX11_lots_50 rfl 0 rfl ?_
      refine G_callV (rest := []) (fun a ha => g_runV C (nargs := 0) (As := []) (rest := []) gX11_lots_X11_notes rfl (by decide +kernel) rfl t77 rfl rfl rfl rfl dX11_lots_51 (k_m_X11_notes X.1.2.1 X.2.1 (g_n X) (g_T X) (g_ag_sub hA (by decide +kernel)) N σ a ha)) (fun σ2 => ?_)
      refine G_aload_n C dX11_lots_54 rfl 0 rfl ?_
      refine G_callI (rest := []) (fun a ha => g_runV C (nargs := 0) (As := []) (rest := []) gX11_lots_X11_lot rfl (by decide +kernel) rfl t77 rfl rfl rfl rfl dX11_lots_55 (k_m_X11_lot X.1.2.1 X.2.1 (g_n X) (g_T X) (g_ag_sub hA (by decide +kernel)) N σ2 a ha)) (fun q3 => ?_)
      refine G_istore_n C dX11_lots_58 rfl rfl (lv' := [(2, .int q3.1), (0, .ref (g_b X + 77)), (1, .int x1), (3, .int x3)]) rfl ?_
      refine G_aload_n C dX11_lots_59 rfl 1 rfl ?_
      refine G_iload_n C dX11_lots_60 rfl 0 rfl ?_
      refine G_aload_n C dX11_lots_61 rfl 1 rfl ?_
      refine G_getR C f_X11_lots_13 t77 rfl dX11_lots_62 ?_
      refine G_iconst C dX11_lots_65 (v := 3) (by decide +kernel) ?_
      refine G_aldk C t79 (by decide +kernel) (k := 3) rfl dX11_lots_66 ?_
      refine G_callV (rest := []) (fun a ha => g_runV C (nargs := 2) (As := [.int q3.1, .int (q3.2.1 79 3)]) (rest := []) gX11_lots_X11_draws rfl (by decide +kernel) rfl t77 rfl rfl rfl rfl dX11_lots_67 (k_m_X11_draws X.1.2.1 X.2.1 (g_n X) (g_T X) (g_ag_sub hA (by decide +kernel)) q3.1 (q3.2.1 79 3) q3.2 a ha)) (fun σ4 => ?_)
      refine G_iinc C dX11_lots_70 3 rfl (v := (x3 + (1 : Int32))) (by rfl) rfl (lv' := [(3, .int (x3 + (1 : Int32))), (2, .int q3.1), (0, .ref (g_b X + 77)), (1, .int x1)]) rfl ?_
      refine G_ltv (fun v => [(3, .int v), (2, .int q3.1), (0, .ref (g_b X + 77)), (1, .int x1)]) (fun v5 => ?_)
      refine G_goto C dX11_lots_73 (tgt := 45) (by decide) ?_
      exact G_sub (ih x1 q3.1 v5 σ4) [2, 3, 1, 0] rfl
set_option maxHeartbeats 4000000 in
set_option maxRecDepth 100000 in
theorem w_m_X11_lots_0 {X : g_X (Int32 × g_St)} (C : g_C X cX11_lots RX11 wsX11_lots rm_m_X11_lots 4) (q : g_qI X) (hA : g_ag L_m_X11_lots (g_n X) (g_T X)) (N : Nat) (x1 : Int32) (σ : g_St) : G X 0 [(0, .ref (g_b X + 77)), (1, .int x1)] [] σ (m_X11_lots N x1 σ) := by
  have t77 := g_ag_at hA (c := 77) rfl tc77
  have t79 := g_ag_at hA (c := 79) rfl tc79
  have t81 := g_ag_at hA (c := 81) rfl tc81
  unfold m_X11_lots
  refine G_iload_n C dX11_lots_0 rfl 1 rfl ?_
  refine G_i2l C dX11_lots_1 ?_
  refine G_lconst C dX11_lots_2 (v := 1) (by decide +kernel) ?_
  refine G_ldc2 C dX11_lots_3 c_X11_lots_169 ?_
  refine G_callI (rest := []) (fun a ha => g_runS C (nargs := 3) (As := [.long (x1).toInt64, .long (1 : Int64), .long (99 : Int64)]) (rest := []) gX11_lots_X11_in rfl (by decide +kernel) rfl rfl rfl dX11_lots_6 (k_m_X11_in X.1.2.1 X.2.1 (g_n X) (g_T X) (g_ag_sub hA (by decide +kernel)) (x1).toInt64 (1 : Int64) (99 : Int64) σ a ha)) (fun q1 => ?_)
  refine G_if_ne C dX11_lots_9 (tgt := 15) (by decide) (fun c2 => ?_) (fun c2 => ?_)
  · refine G_ldc C dX11_lots_12 c_X11_lots_71 ?_
    exact G_iret C q dX11_lots_14
  · refine G_aload_n C dX11_lots_15 rfl 0 rfl ?_
    refine G_getR C f_X11_lots_13 t77 rfl dX11_lots_16 ?_
    refine G_iconst C dX11_lots_19 (v := 1) (by decide +kernel) ?_
    refine G_aldk C t79 (by decide +kernel) (k := 1) rfl dX11_lots_20 ?_
    refine G_if_ne C dX11_lots_21 (tgt := 27) (by decide) (fun c3 => ?_) (fun c3 => ?_)
    · refine G_ldc C dX11_lots_24 c_X11_lots_151 ?_
      exact G_iret C q dX11_lots_26
    · refine G_aload_n C dX11_lots_27 rfl 0 rfl ?_
      refine G_getR C f_X11_lots_19 t77 rfl dX11_lots_28 ?_
      refine G_iconst C dX11_lots_31 (v := 0) (by decide +kernel) ?_
      refine G_aldk C t81 (by decide +kernel) (k := 0) rfl dX11_lots_32 ?_
      refine G_ldc C dX11_lots_33 c_X11_lots_152 ?_
      refine G_icmp_le C dX11_lots_35 (tgt := 41) (by decide) (fun c4 => ?_) (fun c4 => ?_)
      · refine G_iconst C dX11_lots_41 (v := -1) (by decide +kernel) ?_
        refine G_istore_n C dX11_lots_42 rfl rfl (lv' := [(2, .int (-1 : Int32)), (0, .ref (g_b X + 77)), (1, .int x1)]) rfl ?_
        refine G_iconst C dX11_lots_43 (v := 0) (by decide +kernel) ?_
        refine G_istore_n C dX11_lots_44 rfl rfl (lv' := [(3, .int (0 : Int32)), (2, .int (-1 : Int32)), (0, .ref (g_b X + 77)), (1, .int x1)]) rfl ?_
        exact G_sub (w_m_X11_lots_45 C q hA N N x1 (-1 : Int32) (0 : Int32) q1.2) [2, 3, 1, 0] rfl
      · refine G_ldc C dX11_lots_38 c_X11_lots_75 ?_
        exact G_iret C q dX11_lots_40
theorem k_m_X11_lots (l : Launch) (E : g_E) (n : Nat) (T : Nat → g_Sh) (hA : g_ag L_m_X11_lots n T) (N : Nat) (x1 : Int32) (σ : g_St) (a : Int32 × g_St) (h : m_X11_lots N x1 σ = some a) : Met l yX11_lots wsX11_lots rm_m_X11_lots (g_Pc E n T [.ref (E.2.1 + 77), .int x1] σ) (g_Qi E n T a) 0 0 (g_A E) :=
  g_metI (by decide +kernel) rfl rfl (Nat.le_of_ble_eq_true rfl) (fun M Qf C q => by rw [← h]; exact w_m_X11_lots_0 C q hA N x1 σ)
def L_m_X11_sell : List Nat := [77, 79, 81]
abbrev rm_m_X11_sell : Room := { frames := 2, cells := 0, slots := 0, locals := 46 }
theorem f_X11_sell_19 : g_Fld wsX11_sell RX11 19 11 7 := ⟨RX11, TX11, 27, rfl, by decide +kernel, by decide, by decide +kernel⟩
theorem c_X11_sell_139 : Cond.constant RX11 139 (-1000000001) ∈ wsX11_sell := by decide +kernel
theorem c_X11_sell_151 : Cond.constant RX11 151 (-1000000003) ∈ wsX11_sell := by decide +kernel
set_option maxHeartbeats 4000000 in
set_option maxRecDepth 100000 in
theorem w_m_X11_sell_130 {X : g_X (Int32 × g_St)} (C : g_C X cX11_sell RX11 wsX11_sell rm_m_X11_sell 6) (q : g_qI X) (hA : g_ag L_m_X11_sell (g_n X) (g_T X)) (x2 : Int32) (x3 : Int32) (x4 : Int32) (s1 : Int32) (s2 : Int32) (σ : g_St) : G X 130 [(0, .ref (g_b X + 77)), (2, .int x2), (3, .int x3), (4, .int x4)] [.int s2, .int s1, .ref (g_b X + 81)] σ (m_X11_sell_130 x2 x3 x4 s1 s2 σ) := by
  have t77 := g_ag_at hA (c := 77) rfl tc77
  have t81 := g_ag_at hA (c := 81) rfl tc81
  unfold m_X11_sell_130
  refine G_chk (fun h1 => ?_)
  refine G_ast C t81 h1 dX11_sell_130 ?_
  refine G_lts (fun σ2 => ?_)
  refine G_aload_n C dX11_sell_131 rfl 0 rfl ?_
  refine G_getR C f_X11_sell_19 t77 rfl dX11_sell_132 ?_
  refine G_iconst C dX11_sell_135 (v := 3) (by decide +kernel) ?_
  refine G_iconst C dX11_sell_136 (v := 2) (by decide +kernel) ?_
  refine G_iload_n C dX11_sell_137 rfl 1 rfl ?_
  refine G_imul C dX11_sell_138 ?_
  refine G_iadd C dX11_sell_139 ?_
  refine G_iconst C dX11_sell_140 (v := 1) (by decide +kernel) ?_
  refine G_iadd C dX11_sell_141 ?_
  refine G_lti (fun v3 => ?_)
  refine G_dup2 C dX11_sell_142 rfl rfl ?_
  refine G_chk (fun h4 => ?_)
  refine G_ald C t81 h4 dX11_sell_143 ?_
  refine G_iload C dX11_sell_144 3 rfl ?_
  refine G_isub C dX11_sell_146 ?_
  refine G_chk (fun h5 => ?_)
  refine G_ast C t81 h5 dX11_sell_147 ?_
  refine G_lts (fun σ6 => ?_)
  refine G_aload_n C dX11_sell_148 rfl 0 rfl ?_
  refine G_getR C f_X11_sell_19 t77 rfl dX11_sell_149 ?_
  refine G_iload_n C dX11_sell_152 rfl 2 rfl ?_
  refine G_iload_n C dX11_sell_153 rfl 1 rfl ?_
  refine G_chk (fun h7 => ?_)
  refine G_ast C t81 h7 dX11_sell_154 ?_
  refine G_lts (fun σ8 => ?_)
  refine G_aload_n C dX11_sell_155 rfl 0 rfl ?_
  refine G_getR C f_X11_sell_19 t77 rfl dX11_sell_156 ?_
  refine G_iconst C dX11_sell_159 (v := 3) (by decide +kernel) ?_
  refine G_iconst C dX11_sell_160 (v := 2) (by decide +kernel) ?_
  refine G_iload_n C dX11_sell_161 rfl 1 rfl ?_
  refine G_imul C dX11_sell_162 ?_
  refine G_iadd C dX11_sell_163 ?_
  refine G_iconst C dX11_sell_164 (v := 1) (by decide +kernel) ?_
  refine G_iadd C dX11_sell_165 ?_
  refine G_chk (fun h9 => ?_)
  refine G_ald C t81 h9 dX11_sell_166 ?_
  exact G_iret C q dX11_sell_167
set_option maxHeartbeats 4000000 in
set_option maxRecDepth 100000 in
theorem w_m_X11_sell_0 {X : g_X (Int32 × g_St)} (C : g_C X cX11_sell RX11 wsX11_sell rm_m_X11_sell 6) (q : g_qI X) (hA : g_ag L_m_X11_sell (g_n X) (g_T X)) (x1 : Int32) (x2 : Int32) (σ : g_St) : G X 0 [(0, .ref (g_b X + 77)), (1, .int x1), (2, .int x2)] [] σ (m_X11_sell x1 x2 σ) := by
  have t77 := g_ag_at hA (c := 77) rfl tc77
  have t81 := g_ag_at hA (c := 81) rfl tc81
  unfold m_X11_sell
  refine G_aload_n C dX11_sell_0 rfl 0 rfl ?_
  refine G_iload_n C dX11_sell_1 rfl 1 rfl ?_
  refine G_callI (rest := []) (fun a ha => g_runV C (nargs := 1) (As := [.int x1]) (rest := []) gX11_sell_X11_isTicket rfl (by decide +kernel) rfl t77 rfl rfl rfl rfl dX11_sell_2 (k_m_X11_isTicket X.1.2.1 X.2.1 (g_n X) (g_T X) (g_ag_sub hA (by decide +kernel)) x1 σ a ha)) (fun q1 => ?_)
  refine G_if_eq C dX11_sell_5 (tgt := 16) (by decide) (fun c2 => ?_) (fun c2 => ?_)
  · refine G_ldc C dX11_sell_16 c_X11_sell_139 ?_
    exact G_iret C q dX11_sell_18
  · refine G_aload_n C dX11_sell_8 rfl 0 rfl ?_
    refine G_iload_n C dX11_sell_9 rfl 2 rfl ?_
    refine G_callI (rest := []) (fun a ha => g_runV C (nargs := 1) (As := [.int x2]) (rest := []) gX11_sell_X11_isPerson rfl (by decide +kernel) rfl t77 rfl rfl rfl rfl dX11_sell_10 (k_m_X11_isPerson X.1.2.1 X.2.1 (g_n X) (g_T X) (g_ag_sub hA (by decide +kernel)) x2 q1.2 a ha)) (fun q3 => ?_)
    refine G_if_ne C dX11_sell_13 (tgt := 19) (by decide) (fun c4 => ?_) (fun c4 => ?_)
    · refine G_ldc C dX11_sell_16 c_X11_sell_139 ?_
      exact G_iret C q dX11_sell_18
    · refine G_bipush C dX11_sell_19 (v := 15) (by decide +kernel) ?_
      refine G_iconst C dX11_sell_21 (v := 3) (by decide +kernel) ?_
      refine G_iload_n C dX11_sell_22 rfl 1 rfl ?_
      refine G_imul C dX11_sell_23 ?_
      refine G_iadd C dX11_sell_24 ?_
      refine G_lti (fun v5 => ?_)
      refine G_istore_n C dX11_sell_25 rfl rfl (lv' := [(3, .int v5), (0, .ref (g_b X + 77)), (1, .int x1), (2, .int x2)]) rfl ?_
      refine G_aload_n C dX11_sell_26 rfl 1 rfl ?_
      refine G_getR C f_X11_sell_19 t77 rfl dX11_sell_27 ?_
      refine G_iload_n C dX11_sell_30 rfl 0 rfl ?_
      refine G_iconst C dX11_sell_31 (v := 2) (by decide +kernel) ?_
      refine G_iadd C dX11_sell_32 ?_
      refine G_chk (fun h6 => ?_)
      refine G_ald C t81 h6 dX11_sell_33 ?_
      refine G_lti (fun v7 => ?_)
      refine G_istore C dX11_sell_34 rfl (lv' := [(4, .int v7), (3, .int v5), (0, .ref (g_b X + 77)), (1, .int x1), (2, .int x2)]) rfl ?_
      refine G_aload_n C dX11_sell_36 rfl 2 rfl ?_
      refine G_getR C f_X11_sell_19 t77 rfl dX11_sell_37 ?_
      refine G_iload_n C dX11_sell_40 rfl 1 rfl ?_
      refine G_chk (fun h8 => ?_)
      refine G_ald C t81 h8 dX11_sell_41 ?_
      refine G_iload_n C dX11_sell_42 rfl 4 rfl ?_
      refine G_icmp_eq C dX11_sell_43 (tgt := 75) (by decide) (fun c9 => ?_) (fun c9 => ?_)
      · refine G_ldc C dX11_sell_75 c_X11_sell_151 ?_
        exact G_iret C q dX11_sell_77
      · refine G_aload_n C dX11_sell_46 rfl 2 rfl ?_
        refine G_getR C f_X11_sell_19 t77 rfl dX11_sell_47 ?_
        refine G_iload_n C dX11_sell_50 rfl 1 rfl ?_
        refine G_iconst C dX11_sell_51 (v := 1) (by decide +kernel) ?_
        refine G_iadd C dX11_sell_52 ?_
        refine G_chk (fun h10 => ?_)
        refine G_ald C t81 h10 dX11_sell_53 ?_
        refine G_iconst C dX11_sell_54 (v := -1) (by decide +kernel) ?_
        refine G_icmp_ne C dX11_sell_55 (tgt := 75) (by decide) (fun c11 => ?_) (fun c11 => ?_)
        · refine G_aload_n C dX11_sell_58 rfl 2 rfl ?_
          refine G_getR C f_X11_sell_19 t77 rfl dX11_sell_59 ?_
          refine G_iconst C dX11_sell_62 (v := 3) (by decide +kernel) ?_
          refine G_iconst C dX11_sell_63 (v := 2) (by decide +kernel) ?_
          refine G_iload_n C dX11_sell_64 rfl 4 rfl ?_
          refine G_imul C dX11_sell_65 ?_
          refine G_iadd C dX11_sell_66 ?_
          refine G_iconst C dX11_sell_67 (v := 1) (by decide +kernel) ?_
          refine G_iadd C dX11_sell_68 ?_
          refine G_chk (fun h12 => ?_)
          refine G_ald C t81 h12 dX11_sell_69 ?_
          refine G_iload C dX11_sell_70 0 rfl ?_
          refine G_icmp_ge C dX11_sell_72 (tgt := 78) (by decide) (fun c13 => ?_) (fun c13 => ?_)
          · refine G_iconst C dX11_sell_78 (v := 3) (by decide +kernel) ?_
            refine G_iconst C dX11_sell_79 (v := 2) (by decide +kernel) ?_
            refine G_aload_n C dX11_sell_80 rfl 2 rfl ?_
            refine G_getR C f_X11_sell_19 t77 rfl dX11_sell_81 ?_
            refine G_iload_n C dX11_sell_84 rfl 1 rfl ?_
            refine G_chk (fun h14 => ?_)
            refine G_ald C t81 h14 dX11_sell_85 ?_
            refine G_imul C dX11_sell_86 ?_
            refine G_iadd C dX11_sell_87 ?_
            refine G_iconst C dX11_sell_88 (v := 1) (by decide +kernel) ?_
            refine G_iadd C dX11_sell_89 ?_
            refine G_lti (fun v15 => ?_)
            refine G_istore C dX11_sell_90 rfl (lv' := [(5, .int v15), (4, .int v7), (3, .int v5), (0, .ref (g_b X + 77)), (1, .int x1), (2, .int x2)]) rfl ?_
            refine G_aload_n C dX11_sell_92 rfl 3 rfl ?_
            refine G_getR C f_X11_sell_19 t77 rfl dX11_sell_93 ?_
            refine G_iload C dX11_sell_96 0 rfl ?_
            refine G_aload_n C dX11_sell_98 rfl 3 rfl ?_
            refine G_getR C f_X11_sell_19 t77 rfl dX11_sell_99 ?_
            refine G_iload C dX11_sell_102 0 rfl ?_
            refine G_chk (fun h16 => ?_)
            refine G_ald C t81 h16 dX11_sell_104 ?_
            refine G_iload C dX11_sell_105 1 rfl ?_
            refine G_iadd C dX11_sell_107 ?_
            refine G_sipush C dX11_sell_108 (v := 9999) (by decide +kernel) ?_
            refine G_icmp_le C dX11_sell_111 (tgt := 120) (by decide) (fun c17 => ?_) (fun c17 => ?_)
            · refine G_aload_n C dX11_sell_120 rfl 3 rfl ?_
              refine G_getR C f_X11_sell_19 t77 rfl dX11_sell_121 ?_
              refine G_iload C dX11_sell_124 0 rfl ?_
              refine G_chk (fun h18 => ?_)
              refine G_ald C t81 h18 dX11_sell_126 ?_
              refine G_iload C dX11_sell_127 1 rfl ?_
              refine G_iadd C dX11_sell_129 ?_
              exact G_sub (w_m_X11_sell_130 C q hA x2 v5 v7 v15 ((q3.2.1 81 v15.toNatClampNeg) + v7) q3.2) [3, 5, 2, 1] rfl
            · refine G_sipush C dX11_sell_114 (v := 9999) (by decide +kernel) ?_
              refine G_goto C dX11_sell_117 (tgt := 130) (by decide) ?_
              exact G_sub (w_m_X11_sell_130 C q hA x2 v5 v7 v15 (9999 : Int32) q3.2) [3, 5, 2, 1] rfl
          · refine G_ldc C dX11_sell_75 c_X11_sell_151 ?_
            exact G_iret C q dX11_sell_77
        · refine G_ldc C dX11_sell_75 c_X11_sell_151 ?_
          exact G_iret C q dX11_sell_77
theorem k_m_X11_sell (l : Launch) (E : g_E) (n : Nat) (T : Nat → g_Sh) (hA : g_ag L_m_X11_sell n T) (x1 : Int32) (x2 : Int32) (σ : g_St) (a : Int32 × g_St) (h : m_X11_sell x1 x2 σ = some a) : Met l yX11_sell wsX11_sell rm_m_X11_sell (g_Pc E n T [.ref (E.2.1 + 77), .int x1, .int x2] σ) (g_Qi E n T a) 0 0 (g_A E) :=
  g_metI (by decide +kernel) rfl rfl (Nat.le_of_ble_eq_true rfl) (fun M Qf C q => by rw [← h]; exact w_m_X11_sell_0 C q hA x1 x2 σ)
def L_m_X11_pawn : List Nat := [77, 79, 81]
abbrev rm_m_X11_pawn : Room := { frames := 2, cells := 0, slots := 0, locals := 46 }
theorem f_X11_pawn_19 : g_Fld wsX11_pawn RX11 19 11 7 := ⟨RX11, TX11, 27, rfl, by decide +kernel, by decide, by decide +kernel⟩
theorem c_X11_pawn_139 : Cond.constant RX11 139 (-1000000001) ∈ wsX11_pawn := by decide +kernel
set_option maxHeartbeats 4000000 in
set_option maxRecDepth 100000 in
theorem w_m_X11_pawn_24 {X : g_X (Int32 × g_St)} (C : g_C X cX11_pawn RX11 wsX11_pawn rm_m_X11_pawn 4) (q : g_qI X) (hA : g_ag L_m_X11_pawn (g_n X) (g_T X)) (x1 : Int32) (x2 : Int32) (σ : g_St) : G X 24 [(0, .ref (g_b X + 77)), (1, .int x1), (2, .int x2)] [] σ (m_X11_pawn_24 x1 x2 σ) := by
  have t77 := g_ag_at hA (c := 77) rfl tc77
  have t81 := g_ag_at hA (c := 81) rfl tc81
  unfold m_X11_pawn_24
  refine G_aload_n C dX11_pawn_24 rfl 0 rfl ?_
  refine G_getR C f_X11_pawn_19 t77 rfl dX11_pawn_25 ?_
  refine G_bipush C dX11_pawn_28 (v := 15) (by decide +kernel) ?_
  refine G_iconst C dX11_pawn_30 (v := 3) (by decide +kernel) ?_
  refine G_iload_n C dX11_pawn_31 rfl 1 rfl ?_
  refine G_imul C dX11_pawn_32 ?_
  refine G_iadd C dX11_pawn_33 ?_
  refine G_iconst C dX11_pawn_34 (v := 1) (by decide +kernel) ?_
  refine G_iadd C dX11_pawn_35 ?_
  refine G_chk (fun h1 => ?_)
  refine G_ald C t81 h1 dX11_pawn_36 ?_
  refine G_lti (fun v2 => ?_)
  refine G_istore_n C dX11_pawn_37 rfl rfl (lv' := [(3, .int v2), (0, .ref (g_b X + 77)), (1, .int x1), (2, .int x2)]) rfl ?_
  refine G_aload_n C dX11_pawn_38 rfl 1 rfl ?_
  refine G_getR C f_X11_pawn_19 t77 rfl dX11_pawn_39 ?_
  refine G_bipush C dX11_pawn_42 (v := 15) (by decide +kernel) ?_
  refine G_iconst C dX11_pawn_44 (v := 3) (by decide +kernel) ?_
  refine G_iload_n C dX11_pawn_45 rfl 2 rfl ?_
  refine G_imul C dX11_pawn_46 ?_
  refine G_iadd C dX11_pawn_47 ?_
  refine G_iconst C dX11_pawn_48 (v := 1) (by decide +kernel) ?_
  refine G_iadd C dX11_pawn_49 ?_
  refine G_iload_n C dX11_pawn_50 rfl 3 rfl ?_
  refine G_chk (fun h3 => ?_)
  refine G_ast C t81 h3 dX11_pawn_51 ?_
  refine G_lts (fun σ4 => ?_)
  refine G_iload_n C dX11_pawn_52 rfl 0 rfl ?_
  exact G_iret C q dX11_pawn_53
set_option maxHeartbeats 4000000 in
set_option maxRecDepth 100000 in
theorem w_m_X11_pawn_0 {X : g_X (Int32 × g_St)} (C : g_C X cX11_pawn RX11 wsX11_pawn rm_m_X11_pawn 4) (q : g_qI X) (hA : g_ag L_m_X11_pawn (g_n X) (g_T X)) (x1 : Int32) (x2 : Int32) (σ : g_St) : G X 0 [(0, .ref (g_b X + 77)), (1, .int x1), (2, .int x2)] [] σ (m_X11_pawn x1 x2 σ) := by
  have t77 := g_ag_at hA (c := 77) rfl tc77
  unfold m_X11_pawn
  refine G_aload_n C dX11_pawn_0 rfl 0 rfl ?_
  refine G_iload_n C dX11_pawn_1 rfl 1 rfl ?_
  refine G_callI (rest := []) (fun a ha => g_runV C (nargs := 1) (As := [.int x1]) (rest := []) gX11_pawn_X11_isTicket rfl (by decide +kernel) rfl t77 rfl rfl rfl rfl dX11_pawn_2 (k_m_X11_isTicket X.1.2.1 X.2.1 (g_n X) (g_T X) (g_ag_sub hA (by decide +kernel)) x1 σ a ha)) (fun q1 => ?_)
  refine G_if_eq C dX11_pawn_5 (tgt := 21) (by decide) (fun c2 => ?_) (fun c2 => ?_)
  · refine G_ldc C dX11_pawn_21 c_X11_pawn_139 ?_
    exact G_iret C q dX11_pawn_23
  · refine G_iload_n C dX11_pawn_8 rfl 2 rfl ?_
    refine G_iconst C dX11_pawn_9 (v := -1) (by decide +kernel) ?_
    refine G_icmp_eq C dX11_pawn_10 (tgt := 24) (by decide) (fun c3 => ?_) (fun c3 => ?_)
    · exact w_m_X11_pawn_24 C q hA x1 x2 q1.2
    · refine G_aload_n C dX11_pawn_13 rfl 0 rfl ?_
      refine G_iload_n C dX11_pawn_14 rfl 2 rfl ?_
      refine G_callI (rest := []) (fun a ha => g_runV C (nargs := 1) (As := [.int x2]) (rest := []) gX11_pawn_X11_isPerson rfl (by decide +kernel) rfl t77 rfl rfl rfl rfl dX11_pawn_15 (k_m_X11_isPerson X.1.2.1 X.2.1 (g_n X) (g_T X) (g_ag_sub hA (by decide +kernel)) x2 q1.2 a ha)) (fun q4 => ?_)
      refine G_if_ne C dX11_pawn_18 (tgt := 24) (by decide) (fun c5 => ?_) (fun c5 => ?_)
      · refine G_ldc C dX11_pawn_21 c_X11_pawn_139 ?_
        exact G_iret C q dX11_pawn_23
      · exact w_m_X11_pawn_24 C q hA x1 x2 q4.2
theorem k_m_X11_pawn (l : Launch) (E : g_E) (n : Nat) (T : Nat → g_Sh) (hA : g_ag L_m_X11_pawn n T) (x1 : Int32) (x2 : Int32) (σ : g_St) (a : Int32 × g_St) (h : m_X11_pawn x1 x2 σ = some a) : Met l yX11_pawn wsX11_pawn rm_m_X11_pawn (g_Pc E n T [.ref (E.2.1 + 77), .int x1, .int x2] σ) (g_Qi E n T a) 0 0 (g_A E) :=
  g_metI (by decide +kernel) rfl rfl (Nat.le_of_ble_eq_true rfl) (fun M Qf C q => by rw [← h]; exact w_m_X11_pawn_0 C q hA x1 x2 σ)
def L_m_X11_price : List Nat := [77, 79, 81]
abbrev rm_m_X11_price : Room := { frames := 2, cells := 0, slots := 0, locals := 46 }
theorem f_X11_price_19 : g_Fld wsX11_price RX11 19 11 7 := ⟨RX11, TX11, 27, rfl, by decide +kernel, by decide, by decide +kernel⟩
theorem c_X11_price_139 : Cond.constant RX11 139 (-1000000001) ∈ wsX11_price := by decide +kernel
theorem c_X11_price_169 : Cond.constantLong RX11 169 (99) ∈ wsX11_price := by decide +kernel
theorem c_X11_price_71 : Cond.constant RX11 71 (-1000000002) ∈ wsX11_price := by decide +kernel
set_option maxHeartbeats 4000000 in
set_option maxRecDepth 100000 in
theorem w_m_X11_price_0 {X : g_X (Int32 × g_St)} (C : g_C X cX11_price RX11 wsX11_price rm_m_X11_price 4) (q : g_qI X) (hA : g_ag L_m_X11_price (g_n X) (g_T X)) (x1 : Int32) (x2 : Int32) (σ : g_St) : G X 0 [(0, .ref (g_b X + 77)), (1, .int x1), (2, .int x2)] [] σ (m_X11_price x1 x2 σ) := by
  have t77 := g_ag_at hA (c := 77) rfl tc77
  have t81 := g_ag_at hA (c := 81) rfl tc81
  unfold m_X11_price
  refine G_aload_n C dX11_price_0 rfl 0 rfl ?_
  refine G_iload_n C dX11_price_1 rfl 1 rfl ?_
  refine G_callI (rest := []) (fun a ha => g_runV C (nargs := 1) (As := [.int x1]) (rest := []) gX11_price_X11_isTicket rfl (by decide +kernel) rfl t77 rfl rfl rfl rfl dX11_price_2 (k_m_X11_isTicket X.1.2.1 X.2.1 (g_n X) (g_T X) (g_ag_sub hA (by decide +kernel)) x1 σ a ha)) (fun q1 => ?_)
  refine G_if_ne C dX11_price_5 (tgt := 11) (by decide) (fun c2 => ?_) (fun c2 => ?_)
  · refine G_ldc C dX11_price_8 c_X11_price_139 ?_
    exact G_iret C q dX11_price_10
  · refine G_iload_n C dX11_price_11 rfl 2 rfl ?_
    refine G_i2l C dX11_price_12 ?_
    refine G_lconst C dX11_price_13 (v := 0) (by decide +kernel) ?_
    refine G_ldc2 C dX11_price_14 c_X11_price_169 ?_
    refine G_callI (rest := []) (fun a ha => g_runS C (nargs := 3) (As := [.long (x2).toInt64, .long (0 : Int64), .long (99 : Int64)]) (rest := []) gX11_price_X11_in rfl (by decide +kernel) rfl rfl rfl dX11_price_17 (k_m_X11_in X.1.2.1 X.2.1 (g_n X) (g_T X) (g_ag_sub hA (by decide +kernel)) (x2).toInt64 (0 : Int64) (99 : Int64) q1.2 a ha)) (fun q3 => ?_)
    refine G_if_ne C dX11_price_20 (tgt := 26) (by decide) (fun c4 => ?_) (fun c4 => ?_)
    · refine G_ldc C dX11_price_23 c_X11_price_71 ?_
      exact G_iret C q dX11_price_25
    · refine G_aload_n C dX11_price_26 rfl 0 rfl ?_
      refine G_getR C f_X11_price_19 t77 rfl dX11_price_27 ?_
      refine G_bipush C dX11_price_30 (v := 15) (by decide +kernel) ?_
      refine G_iconst C dX11_price_32 (v := 3) (by decide +kernel) ?_
      refine G_iload_n C dX11_price_33 rfl 1 rfl ?_
      refine G_imul C dX11_price_34 ?_
      refine G_iadd C dX11_price_35 ?_
      refine G_iconst C dX11_price_36 (v := 2) (by decide +kernel) ?_
      refine G_iadd C dX11_price_37 ?_
      refine G_chk (fun h5 => ?_)
      refine G_ald C t81 h5 dX11_price_38 ?_
      refine G_lti (fun v6 => ?_)
      refine G_istore_n C dX11_price_39 rfl rfl (lv' := [(3, .int v6), (0, .ref (g_b X + 77)), (1, .int x1), (2, .int x2)]) rfl ?_
      refine G_aload_n C dX11_price_40 rfl 1 rfl ?_
      refine G_getR C f_X11_price_19 t77 rfl dX11_price_41 ?_
      refine G_bipush C dX11_price_44 (v := 15) (by decide +kernel) ?_
      refine G_iconst C dX11_price_46 (v := 3) (by decide +kernel) ?_
      refine G_iload_n C dX11_price_47 rfl 2 rfl ?_
      refine G_imul C dX11_price_48 ?_
      refine G_iadd C dX11_price_49 ?_
      refine G_iconst C dX11_price_50 (v := 2) (by decide +kernel) ?_
      refine G_iadd C dX11_price_51 ?_
      refine G_iload_n C dX11_price_52 rfl 3 rfl ?_
      refine G_chk (fun h7 => ?_)
      refine G_ast C t81 h7 dX11_price_53 ?_
      refine G_lts (fun σ8 => ?_)
      refine G_iload_n C dX11_price_54 rfl 0 rfl ?_
      exact G_iret C q dX11_price_55
theorem k_m_X11_price (l : Launch) (E : g_E) (n : Nat) (T : Nat → g_Sh) (hA : g_ag L_m_X11_price n T) (x1 : Int32) (x2 : Int32) (σ : g_St) (a : Int32 × g_St) (h : m_X11_price x1 x2 σ = some a) : Met l yX11_price wsX11_price rm_m_X11_price (g_Pc E n T [.ref (E.2.1 + 77), .int x1, .int x2] σ) (g_Qi E n T a) 0 0 (g_A E) :=
  g_metI (by decide +kernel) rfl rfl (Nat.le_of_ble_eq_true rfl) (fun M Qf C q => by rw [← h]; exact w_m_X11_price_0 C q hA x1 x2 σ)
def L_m_X11_undo : List Nat := [77, 81, 82]
abbrev rm_m_X11_undo : Room := { frames := 1, cells := 0, slots := 0, locals := 25 }
theorem f_X11_undo_119 : g_Fld wsX11_undo RX11 119 11 9 := ⟨RX11, TX11, 27, rfl, by decide +kernel, by decide, by decide +kernel⟩
theorem f_X11_undo_19 : g_Fld wsX11_undo RX11 19 11 7 := ⟨RX11, TX11, 27, rfl, by decide +kernel, by decide, by decide +kernel⟩
theorem f_X11_undo_22 : g_Fld wsX11_undo RX11 22 11 10 := ⟨RX11, TX11, 27, rfl, by decide +kernel, by decide, by decide +kernel⟩
theorem p_X11_undo_119 : g_FldP wsX11_undo RX11 119 11 9 .int := ⟨RX11, TX11, 27, tyX11, rfl, by decide +kernel, by decide, by decide +kernel, tyX11_ok, nmX11, rfl, by decide +kernel⟩
theorem c_X11_undo_151 : Cond.constant RX11 151 (-1000000003) ∈ wsX11_undo := by decide +kernel
theorem c_X11_undo_174 : Cond.constantLong RX11 174 (30) ∈ wsX11_undo := by decide +kernel
theorem c_X11_undo_71 : Cond.constant RX11 71 (-1000000002) ∈ wsX11_undo := by decide +kernel
set_option maxHeartbeats 4000000 in
set_option maxRecDepth 100000 in
theorem w_m_X11_undo_38 {X : g_X (Int32 × g_St)} (C : g_C X cX11_undo RX11 wsX11_undo rm_m_X11_undo 3) (q : g_qI X) (hA : g_ag L_m_X11_undo (g_n X) (g_T X)) (N : Nat) : ∀ (fu : Nat) (x2 : Int32) (σ : g_St), G X 38 [(0, .ref (g_b X + 77)), (2, .int x2)] [] σ (m_X11_undo_38 N fu x2 σ) := by
  have t77 := g_ag_at hA (c := 77) rfl tc77
  have t81 := g_ag_at hA (c := 81) rfl tc81
  have t82 := g_ag_at hA (c := 82) rfl tc82
  intro fu
  induction fu with
  | zero => intro x2 σ; exact G_none
  | succ fu ih =>
    intro x2 σ
    unfold m_X11_undo_38
    refine G_iload_n C dX11_undo_38 rfl 1 rfl ?_
    refine G_bipush C dX11_undo_39 (v := 39) (by decide +kernel) ?_
    refine G_icmp_ge C dX11_undo_41 (tgt := 70) (by decide) (fun c1 => ?_) (fun c1 => ?_)
    · refine G_aload_n C dX11_undo_70 rfl 0 rfl ?_
      refine G_getR C f_X11_undo_19 t77 rfl dX11_undo_71 ?_
      refine G_iconst C dX11_undo_74 (v := 0) (by decide +kernel) ?_
      refine G_aldk C t81 (by decide +kernel) (k := 0) rfl dX11_undo_75 ?_
      exact G_iret C q dX11_undo_76
    · refine G_aload_n C dX11_undo_44 rfl 0 rfl ?_
      refine G_getR C f_X11_undo_19 t77 rfl dX11_undo_45 ?_
      refine G_iload_n C dX11_undo_48 rfl 1 rfl ?_
      refine G_aload_n C dX11_undo_49 rfl 0 rfl ?_
      refine G_getR C f_X11_undo_22 t77 rfl dX11_undo_50 ?_
      refine G_bipush C dX11_undo_53 (v := 39) (by decide +kernel) ?_
      refine G_aload_n C dX11_undo_55 rfl 0 rfl ?_
      refine G_getI C f_X11_undo_119 t77 rfl dX11_undo_56 ?_
      refine G_imul C dX11_undo_59 ?_
      refine G_iload_n C dX11_undo_60 rfl 1 rfl ?_
      refine G_iadd C dX11_undo_61 ?_
      refine G_chk (fun h2 => ?_)
      refine G_ald C t82 h2 dX11_undo_62 ?_
      refine G_chk (fun h3 => ?_)
      refine G_ast C t81 h3 dX11_undo_63 ?_
      refine G_lts (fun σ4 => ?_)
      refine G_iinc C dX11_undo_64 1 rfl (v := (x2 + (1 : Int32))) (by rfl) rfl (lv' := [(2, .int (x2 + (1 : Int32))), (0, .ref (g_b X + 77))]) rfl ?_
      refine G_ltv (fun v => [(2, .int v), (0, .ref (g_b X + 77))]) (fun v5 => ?_)
      refine G_goto C dX11_undo_67 (tgt := 38) (by decide) ?_
      exact G_sub (ih v5 σ4) [1, 0] rfl
set_option maxHeartbeats 4000000 in
set_option maxRecDepth 100000 in
theorem w_m_X11_undo_0 {X : g_X (Int32 × g_St)} (C : g_C X cX11_undo RX11 wsX11_undo rm_m_X11_undo 3) (q : g_qI X) (hA : g_ag L_m_X11_undo (g_n X) (g_T X)) (N : Nat) (x1 : Int32) (σ : g_St) : G X 0 [(0, .ref (g_b X + 77)), (1, .int x1)] [] σ (m_X11_undo N x1 σ) := by
  have t77 := g_ag_at hA (c := 77) rfl tc77
  unfold m_X11_undo
  refine G_iload_n C dX11_undo_0 rfl 1 rfl ?_
  refine G_i2l C dX11_undo_1 ?_
  refine G_lconst C dX11_undo_2 (v := 1) (by decide +kernel) ?_
  refine G_ldc2 C dX11_undo_3 c_X11_undo_174 ?_
  refine G_callI (rest := []) (fun a ha => g_runS C (nargs := 3) (As := [.long (x1).toInt64, .long (1 : Int64), .long (30 : Int64)]) (rest := []) gX11_undo_X11_in rfl (by decide +kernel) rfl rfl rfl dX11_undo_6 (k_m_X11_in X.1.2.1 X.2.1 (g_n X) (g_T X) (g_ag_sub hA (by decide +kernel)) (x1).toInt64 (1 : Int64) (30 : Int64) σ a ha)) (fun q1 => ?_)
  refine G_if_ne C dX11_undo_9 (tgt := 15) (by decide) (fun c2 => ?_) (fun c2 => ?_)
  · refine G_ldc C dX11_undo_12 c_X11_undo_71 ?_
    exact G_iret C q dX11_undo_14
  · refine G_iload_n C dX11_undo_15 rfl 1 rfl ?_
    refine G_aload_n C dX11_undo_16 rfl 0 rfl ?_
    refine G_getI C f_X11_undo_119 t77 rfl dX11_undo_17 ?_
    refine G_icmp_le C dX11_undo_20 (tgt := 26) (by decide) (fun c3 => ?_) (fun c3 => ?_)
    · refine G_aload_n C dX11_undo_26 rfl 0 rfl ?_
      refine G_dup C dX11_undo_27 rfl ?_
      refine G_getI C f_X11_undo_119 t77 rfl dX11_undo_28 ?_
      refine G_iload_n C dX11_undo_31 rfl 1 rfl ?_
      refine G_isub C dX11_undo_32 ?_
      refine G_putI C p_X11_undo_119 t77 rfl rfl rfl dX11_undo_33 ?_
      refine G_lts (fun σ4 => ?_)
      refine G_iconst C dX11_undo_36 (v := 0) (by decide +kernel) ?_
      refine G_istore_n C dX11_undo_37 rfl rfl (lv' := [(2, .int (0 : Int32)), (0, .ref (g_b X + 77)), (1, .int x1)]) rfl ?_
      exact G_sub (w_m_X11_undo_38 C q hA N N (0 : Int32) σ4) [1, 0] rfl
    · refine G_ldc C dX11_undo_23 c_X11_undo_151 ?_
      exact G_iret C q dX11_undo_25
theorem k_m_X11_undo (l : Launch) (E : g_E) (n : Nat) (T : Nat → g_Sh) (hA : g_ag L_m_X11_undo n T) (N : Nat) (x1 : Int32) (σ : g_St) (a : Int32 × g_St) (h : m_X11_undo N x1 σ = some a) : Met l yX11_undo wsX11_undo rm_m_X11_undo (g_Pc E n T [.ref (E.2.1 + 77), .int x1] σ) (g_Qi E n T a) 0 0 (g_A E) :=
  g_metI (by decide +kernel) rfl rfl (Nat.le_of_ble_eq_true rfl) (fun M Qf C q => by rw [← h]; exact w_m_X11_undo_0 C q hA N x1 σ)
def L_m_X11_many : List Nat := []
abbrev rm_m_X11_many : Room := { frames := 0, cells := 0, slots := 0, locals := 0 }
set_option maxHeartbeats 4000000 in
set_option maxRecDepth 100000 in
theorem w_m_X11_many_4 {X : g_X (Int32 × g_St)} (C : g_C X cX11_many RX11 wsX11_many rm_m_X11_many 3) (q : g_qI X) (hA : g_ag L_m_X11_many (g_n X) (g_T X)) (N : Nat) : ∀ (fu : Nat) (x1 : Int32) (x2 : Int32) (σ : g_St), G X 4 [(1, .int x1), (2, .int x2)] [] σ (m_X11_many_4 N fu x1 x2 σ) := by
  intro fu
  induction fu with
  | zero => intro x1 x2 σ; exact G_none
  | succ fu ih =>
    intro x1 x2 σ
    unfold m_X11_many_4
    refine G_iload_n C dX11_many_4 rfl 1 rfl ?_
    refine G_if_eq C dX11_many_5 (tgt := 20) (by decide) (fun c1 => ?_) (fun c1 => ?_)
    · refine G_iload_n C dX11_many_20 rfl 0 rfl ?_
      exact G_iret C q dX11_many_21
    · refine G_iinc C dX11_many_8 0 rfl (v := (x1 + (1 : Int32))) (by rfl) rfl (lv' := [(1, .int (x1 + (1 : Int32))), (2, .int x2)]) rfl ?_
      refine G_ltv (fun v => [(1, .int v), (2, .int x2)]) (fun v2 => ?_)
      refine G_iload_n C dX11_many_11 rfl 1 rfl ?_
      refine G_iload_n C dX11_many_12 rfl 1 rfl ?_
      refine G_iconst C dX11_many_13 (v := 1) (by decide +kernel) ?_
      refine G_isub C dX11_many_14 ?_
      refine G_iand C dX11_many_15 ?_
      refine G_lti (fun v3 => ?_)
      refine G_istore_n C dX11_many_16 rfl rfl (lv' := [(2, .int v3), (1, .int v2)]) rfl ?_
      refine G_goto C dX11_many_17 (tgt := 4) (by decide) ?_
      exact G_sub (ih v2 v3 σ) [1, 0] rfl
set_option maxHeartbeats 4000000 in
set_option maxRecDepth 100000 in
theorem w_m_X11_many_0 {X : g_X (Int32 × g_St)} (C : g_C X cX11_many RX11 wsX11_many rm_m_X11_many 3) (q : g_qI X) (hA : g_ag L_m_X11_many (g_n X) (g_T X)) (N : Nat) (x0 : Int32) (σ : g_St) : G X 0 [(0, .int x0)] [] σ (m_X11_many N x0 σ) := by
  unfold m_X11_many
  refine G_iconst C dX11_many_0 (v := 0) (by decide +kernel) ?_
  refine G_istore_n C dX11_many_1 rfl rfl (lv' := [(1, .int (0 : Int32)), (0, .int x0)]) rfl ?_
  refine G_iload_n C dX11_many_2 rfl 1 rfl ?_
  refine G_istore_n C dX11_many_3 rfl rfl (lv' := [(2, .int x0), (1, .int (0 : Int32)), (0, .int x0)]) rfl ?_
  exact G_sub (w_m_X11_many_4 C q hA N N (0 : Int32) x0 σ) [1, 0] rfl
theorem k_m_X11_many (l : Launch) (E : g_E) (n : Nat) (T : Nat → g_Sh) (hA : g_ag L_m_X11_many n T) (N : Nat) (x0 : Int32) (σ : g_St) (a : Int32 × g_St) (h : m_X11_many N x0 σ = some a) : Met l yX11_many wsX11_many rm_m_X11_many (g_Pc E n T [.int x0] σ) (g_Qi E n T a) 0 0 (g_A E) :=
  g_metI (by decide +kernel) rfl rfl (Nat.le_of_ble_eq_true rfl) (fun M Qf C q => by rw [← h]; exact w_m_X11_many_0 C q hA N x0 σ)
def L_m_X11_oddsWith : List Nat := [77, 79, 83]
abbrev rm_m_X11_oddsWith : Room := { frames := 2, cells := 0, slots := 0, locals := 44 }
theorem f_X11_oddsWith_25 : g_Fld wsX11_oddsWith RX11 25 11 11 := ⟨RX11, TX11, 27, rfl, by decide +kernel, by decide, by decide +kernel⟩
theorem c_X11_oddsWith_184 : Cond.constant RX11 184 (1000000000) ∈ wsX11_oddsWith := by decide +kernel
set_option maxHeartbeats 4000000 in
set_option maxRecDepth 100000 in
theorem w_m_X11_oddsWith_139 {X : g_X (Int32 × g_St)} (C : g_C X cX11_oddsWith RX11 wsX11_oddsWith rm_m_X11_oddsWith 9) (q : g_qI X) (hA : g_ag L_m_X11_oddsWith (g_n X) (g_T X)) (N : Nat) : ∀ (fu : Nat) (x6 : Int32) (x7 : Int32) (σ : g_St), G X 139 [(0, .ref (g_b X + 77)), (6, .int x6), (7, .int x7)] [] σ (m_X11_oddsWith_139 N fu x6 x7 σ) := by
  have t77 := g_ag_at hA (c := 77) rfl tc77
  have t83 := g_ag_at hA (c := 83) rfl tc83
  intro fu
  induction fu with
  | zero => intro x6 x7 σ; exact G_none
  | succ fu ih =>
    intro x6 x7 σ
    unfold m_X11_oddsWith_139
    refine G_iload C dX11_oddsWith_139 2 rfl ?_
    refine G_bipush C dX11_oddsWith_141 (v := 10) (by decide +kernel) ?_
    refine G_icmp_ge C dX11_oddsWith_143 (tgt := 164) (by decide) (fun c1 => ?_) (fun c1 => ?_)
    · refine G_iload C dX11_oddsWith_164 1 rfl ?_
      exact G_iret C q dX11_oddsWith_166
    · refine G_iload C dX11_oddsWith_146 1 rfl ?_
      refine G_aload_n C dX11_oddsWith_148 rfl 0 rfl ?_
      refine G_getR C f_X11_oddsWith_25 t77 rfl dX11_oddsWith_149 ?_
      refine G_iload C dX11_oddsWith_152 2 rfl ?_
      refine G_chk (fun h2 => ?_)
      refine G_ald C t83 h2 dX11_oddsWith_154 ?_
      refine G_iadd C dX11_oddsWith_155 ?_
      refine G_lti (fun v3 => ?_)
      refine G_istore C dX11_oddsWith_156 rfl (lv' := [(6, .int v3), (0, .ref (g_b X + 77)), (7, .int x7)]) rfl ?_
      refine G_iinc C dX11_oddsWith_158 2 rfl (v := (x7 + (1 : Int32))) (by rfl) rfl (lv' := [(7, .int (x7 + (1 : Int32))), (6, .int v3), (0, .ref (g_b X + 77))]) rfl ?_
      refine G_ltv (fun v => [(7, .int v), (6, .int v3), (0, .ref (g_b X + 77))]) (fun v4 => ?_)
      refine G_goto C dX11_oddsWith_161 (tgt := 139) (by decide) ?_
      exact G_sub (ih v3 v4 σ) [2, 1, 0] rfl
set_option maxHeartbeats 4000000 in
set_option maxRecDepth 100000 in
theorem w_m_X11_oddsWith_133 {X : g_X (Int32 × g_St)} (C : g_C X cX11_oddsWith RX11 wsX11_oddsWith rm_m_X11_oddsWith 9) (q : g_qI X) (hA : g_ag L_m_X11_oddsWith (g_n X) (g_T X)) (N : Nat) (x2 : Int32) (σ : g_St) : G X 133 [(0, .ref (g_b X + 77)), (2, .int x2)] [] σ (m_X11_oddsWith_133 N x2 σ) := by
  unfold m_X11_oddsWith_133
  refine G_iconst C dX11_oddsWith_133 (v := 0) (by decide +kernel) ?_
  refine G_istore C dX11_oddsWith_134 rfl (lv' := [(6, .int (0 : Int32)), (0, .ref (g_b X + 77)), (2, .int x2)]) rfl ?_
  refine G_iload_n C dX11_oddsWith_136 rfl 2 rfl ?_
  refine G_istore C dX11_oddsWith_137 rfl (lv' := [(7, .int x2), (6, .int (0 : Int32)), (0, .ref (g_b X + 77)), (2, .int x2)]) rfl ?_
  exact G_sub (w_m_X11_oddsWith_139 C q hA N N (0 : Int32) x2 σ) [2, 1, 0] rfl
set_option maxHeartbeats 4000000 in
set_option maxRecDepth 100000 in
theorem w_m_X11_oddsWith_69 {X : g_X (Int32 × g_St)} (C : g_C X cX11_oddsWith RX11 wsX11_oddsWith rm_m_X11_oddsWith 9) (q : g_qI X) (hA : g_ag L_m_X11_oddsWith (g_n X) (g_T X)) (k54 : Int32 → Int32 → Int32 → Int32 → Int32 → g_St → Option (Int32 × g_St)) (hk54 : ∀ (x2 : Int32) (x3 : Int32) (x4 : Int32) (x5 : Int32) (x6 : Int32) (σ : g_St), G X 54 [(0, .ref (g_b X + 77)), (2, .int x2), (3, .int x3), (4, .int x4), (5, .int x5), (6, .int x6)] [] σ (k54 x2 x3 x4 x5 x6 σ)) (N : Nat) : ∀ (fu : Nat) (x2 : Int32) (x3 : Int32) (x4 : Int32) (x5 : Int32) (x6 : Int32) (x7 : Int32) (σ : g_St), G X 69 [(0, .ref (g_b X + 77)), (2, .int x2), (3, .int x3), (4, .int x4), (5, .int x5), (6, .int x6), (7, .int x7)] [] σ (m_X11_oddsWith_69 k54 N fu x2 x3 x4 x5 x6 x7 σ) := by
  have t77 := g_ag_at hA (c := 77) rfl tc77
  have t83 := g_ag_at hA (c := 83) rfl tc83
  intro fu
  induction fu with
  | zero => intro x2 x3 x4 x5 x6 x7 σ; exact G_none
  | succ fu ih =>
    intro x2 x3 x4 x5 x6 x7 σ
    unfold m_X11_oddsWith_69
    refine G_iload C dX11_oddsWith_69 6 rfl ?_
    refine G_if_lt C dX11_oddsWith_71 (tgt := 127) (by decide) (fun c1 => ?_) (fun c1 => ?_)
    · refine G_iinc C dX11_oddsWith_127 5 rfl (v := (x6 + (1 : Int32))) (by rfl) rfl (lv' := [(6, .int (x6 + (1 : Int32))), (0, .ref (g_b X + 77)), (2, .int x2), (3, .int x3), (4, .int x4), (5, .int x5), (7, .int x7)]) rfl ?_
      refine G_ltv (fun v => [(6, .int v), (0, .ref (g_b X + 77)), (2, .int x2), (3, .int x3), (4, .int x4), (5, .int x5), (7, .int x7)]) (fun v2 => ?_)
      refine G_goto C dX11_oddsWith_130 (tgt := 54) (by decide) ?_
      exact G_sub (hk54 x2 x3 x4 x5 v2 σ) [1, 2, 3, 4, 5, 0] rfl
    · refine G_lconst C dX11_oddsWith_74 (v := 1) (by decide +kernel) ?_
      refine G_aload_n C dX11_oddsWith_75 rfl 0 rfl ?_
      refine G_getR C f_X11_oddsWith_25 t77 rfl dX11_oddsWith_76 ?_
      refine G_iload C dX11_oddsWith_79 6 rfl ?_
      refine G_chk (fun h3 => ?_)
      refine G_ald C t83 h3 dX11_oddsWith_81 ?_
      refine G_i2l C dX11_oddsWith_82 ?_
      refine G_lmul C dX11_oddsWith_83 ?_
      refine G_iload C dX11_oddsWith_84 3 rfl ?_
      refine G_i2l C dX11_oddsWith_86 ?_
      refine G_lmul C dX11_oddsWith_87 ?_
      refine G_iload C dX11_oddsWith_88 4 rfl ?_
      refine G_i2l C dX11_oddsWith_90 ?_
      refine G_chn (fun h4 => ?_)
      refine G_ldiv C dX11_oddsWith_91 h4 ?_
      refine G_l2i C dX11_oddsWith_92 ?_
      refine G_lti (fun v5 => ?_)
      refine G_istore C dX11_oddsWith_93 rfl (lv' := [(8, .int v5), (0, .ref (g_b X + 77)), (2, .int x2), (3, .int x3), (4, .int x4), (5, .int x5), (6, .int x6), (7, .int x7)]) rfl ?_
      refine G_aload_n C dX11_oddsWith_95 rfl 1 rfl ?_
      refine G_getR C f_X11_oddsWith_25 t77 rfl dX11_oddsWith_96 ?_
      refine G_iload C dX11_oddsWith_99 7 rfl ?_
      refine G_dup2 C dX11_oddsWith_101 rfl rfl ?_
      refine G_chk (fun h6 => ?_)
      refine G_ald C t83 h6 dX11_oddsWith_102 ?_
      refine G_iload C dX11_oddsWith_103 0 rfl ?_
      refine G_isub C dX11_oddsWith_105 ?_
      refine G_chk (fun h7 => ?_)
      refine G_ast C t83 h7 dX11_oddsWith_106 ?_
      refine G_lts (fun σ8 => ?_)
      refine G_aload_n C dX11_oddsWith_107 rfl 1 rfl ?_
      refine G_getR C f_X11_oddsWith_25 t77 rfl dX11_oddsWith_108 ?_
      refine G_iload C dX11_oddsWith_111 7 rfl ?_
      refine G_iconst C dX11_oddsWith_113 (v := 1) (by decide +kernel) ?_
      refine G_iadd C dX11_oddsWith_114 ?_
      refine G_lti (fun v9 => ?_)
      refine G_dup2 C dX11_oddsWith_115 rfl rfl ?_
      refine G_chk (fun h10 => ?_)
      refine G_ald C t83 h10 dX11_oddsWith_116 ?_
      refine G_iload C dX11_oddsWith_117 0 rfl ?_
      refine G_iadd C dX11_oddsWith_119 ?_
      refine G_chk (fun h11 => ?_)
      refine G_ast C t83 h11 dX11_oddsWith_120 ?_
      refine G_lts (fun σ12 => ?_)
      refine G_iinc C dX11_oddsWith_121 7 rfl (v := (x7 + (-1 : Int32))) (by rfl) rfl (lv' := [(7, .int (x7 + (-1 : Int32))), (8, .int v5), (0, .ref (g_b X + 77)), (2, .int x2), (3, .int x3), (4, .int x4), (5, .int x5), (6, .int x6)]) rfl ?_
      refine G_ltv (fun v => [(7, .int v), (8, .int v5), (0, .ref (g_b X + 77)), (2, .int x2), (3, .int x3), (4, .int x4), (5, .int x5), (6, .int x6)]) (fun v13 => ?_)
      refine G_goto C dX11_oddsWith_124 (tgt := 69) (by decide) ?_
      exact G_sub (ih x2 x3 x4 x5 x6 v13 σ12) [2, 3, 4, 5, 6, 7, 0] rfl
set_option maxHeartbeats 4000000 in
set_option maxRecDepth 100000 in
theorem w_m_X11_oddsWith_54 {X : g_X (Int32 × g_St)} (C : g_C X cX11_oddsWith RX11 wsX11_oddsWith rm_m_X11_oddsWith 9) (q : g_qI X) (hA : g_ag L_m_X11_oddsWith (g_n X) (g_T X)) (N : Nat) : ∀ (fu : Nat) (x2 : Int32) (x3 : Int32) (x4 : Int32) (x5 : Int32) (x6 : Int32) (σ : g_St), G X 54 [(0, .ref (g_b X + 77)), (2, .int x2), (3, .int x3), (4, .int x4), (5, .int x5), (6, .int x6)] [] σ (m_X11_oddsWith_54 N fu x2 x3 x4 x5 x6 σ) := by
  intro fu
  induction fu with
  | zero => intro x2 x3 x4 x5 x6 σ; exact G_none
  | succ fu ih =>
    intro x2 x3 x4 x5 x6 σ
    unfold m_X11_oddsWith_54
    refine G_iload C dX11_oddsWith_54 5 rfl ?_
    refine G_iload_n C dX11_oddsWith_56 rfl 2 rfl ?_
    refine G_icmp_ge C dX11_oddsWith_57 (tgt := 133) (by decide) (fun c1 => ?_) (fun c1 => ?_)
    · exact G_sub (w_m_X11_oddsWith_133 C q hA N x2 σ) [0, 1] rfl
    · refine G_iload C dX11_oddsWith_60 4 rfl ?_
      refine G_if_le C dX11_oddsWith_62 (tgt := 133) (by decide) (fun c2 => ?_) (fun c2 => ?_)
      · exact G_sub (w_m_X11_oddsWith_133 C q hA N x2 σ) [0, 1] rfl
      · refine G_iload C dX11_oddsWith_65 5 rfl ?_
        refine G_istore C dX11_oddsWith_67 rfl (lv' := [(7, .int x6), (0, .ref (g_b X + 77)), (2, .int x2), (3, .int x3), (4, .int x4), (5, .int x5), (6, .int x6)]) rfl ?_
        exact G_sub (w_m_X11_oddsWith_69 C q hA (m_X11_oddsWith_54 N fu) ih N N x2 x3 x4 x5 x6 x6 σ) [1, 2, 3, 4, 5, 6, 0] rfl
set_option maxHeartbeats 4000000 in
set_option maxRecDepth 100000 in
theorem w_m_X11_oddsWith_27 {X : g_X (Int32 × g_St)} (C : g_C X cX11_oddsWith RX11 wsX11_oddsWith rm_m_X11_oddsWith 9) (q : g_qI X) (hA : g_ag L_m_X11_oddsWith (g_n X) (g_T X)) (k3 : Int32 → Int32 → Int32 → Int32 → g_St → Option (Int32 × g_St)) (hk3 : ∀ (x1 : Int32) (x2 : Int32) (x3 : Int32) (x4 : Int32) (σ : g_St), G X 3 [(0, .ref (g_b X + 77)), (1, .int x1), (2, .int x2), (3, .int x3), (4, .int x4)] [] σ (k3 x1 x2 x3 x4 σ)) (N : Nat) (x1 : Int32) (x2 : Int32) (x3 : Int32) (x4 : Int32) (s1 : Int32) (s2 : Int32) (σ : g_St) : G X 27 [(0, .ref (g_b X + 77)), (1, .int x1), (2, .int x2), (3, .int x3), (4, .int x4)] [.int s2, .int s1, .ref (g_b X + 83)] σ (m_X11_oddsWith_27 k3 N x1 x2 x3 x4 s1 s2 σ) := by
  have t83 := g_ag_at hA (c := 83) rfl tc83
  unfold m_X11_oddsWith_27
  refine G_chk (fun h1 => ?_)
  refine G_ast C t83 h1 dX11_oddsWith_27 ?_
  refine G_lts (fun σ2 => ?_)
  refine G_iinc C dX11_oddsWith_28 4 rfl (v := (x4 + (1 : Int32))) (by rfl) rfl (lv' := [(4, .int (x4 + (1 : Int32))), (0, .ref (g_b X + 77)), (1, .int x1), (2, .int x2), (3, .int x3)]) rfl ?_
  refine G_ltv (fun v => [(4, .int v), (0, .ref (g_b X + 77)), (1, .int x1), (2, .int x2), (3, .int x3)]) (fun v3 => ?_)
  refine G_goto C dX11_oddsWith_31 (tgt := 3) (by decide) ?_
  exact G_sub (hk3 x1 x2 x3 v3 σ2) [1, 2, 3, 4, 0] rfl
set_option maxHeartbeats 4000000 in
set_option maxRecDepth 100000 in
theorem w_m_X11_oddsWith_3 {X : g_X (Int32 × g_St)} (C : g_C X cX11_oddsWith RX11 wsX11_oddsWith rm_m_X11_oddsWith 9) (q : g_qI X) (hA : g_ag L_m_X11_oddsWith (g_n X) (g_T X)) (N : Nat) : ∀ (fu : Nat) (x1 : Int32) (x2 : Int32) (x3 : Int32) (x4 : Int32) (σ : g_St), G X 3 [(0, .ref (g_b X + 77)), (1, .int x1), (2, .int x2), (3, .int x3), (4, .int x4)] [] σ (m_X11_oddsWith_3 N fu x1 x2 x3 x4 σ) := by
  have t77 := g_ag_at hA (c := 77) rfl tc77
  intro fu
  induction fu with
  | zero => intro x1 x2 x3 x4 σ; exact G_none
  | succ fu ih =>
    intro x1 x2 x3 x4 σ
    unfold m_X11_oddsWith_3
    refine G_iload C dX11_oddsWith_3 4 rfl ?_
    refine G_bipush C dX11_oddsWith_5 (v := 10) (by decide +kernel) ?_
    refine G_icmp_ge C dX11_oddsWith_7 (tgt := 34) (by decide) (fun c1 => ?_) (fun c1 => ?_)
    · refine G_aload_n C dX11_oddsWith_34 rfl 0 rfl ?_
      refine G_iload_n C dX11_oddsWith_35 rfl 1 rfl ?_
      refine G_callI (rest := []) (fun a ha => g_runV C (nargs := 1) (As := [.int x1]) (rest := []) gX11_oddsWith_X11_weightOf rfl (by decide +kernel) rfl t77 rfl rfl rfl rfl dX11_oddsWith_36 (k_m_X11_weightOf X.1.2.1 X.2.1 (g_n X) (g_T X) (g_ag_sub hA (by decide +kernel)) N x1 σ a ha)) (fun q2 => ?_)
      refine G_istore C dX11_oddsWith_39 rfl (lv' := [(4, .int q2.1), (0, .ref (g_b X + 77)), (1, .int x1), (2, .int x2), (3, .int x3)]) rfl ?_
      refine G_aload_n C dX11_oddsWith_41 rfl 1 rfl ?_
      refine G_aload_n C dX11_oddsWith_42 rfl 1 rfl ?_
      refine G_callI (rest := [.ref (g_b X + 77)]) (fun a ha => g_runV C (nargs := 0) (As := []) (rest := [.ref (g_b X + 77)]) gX11_oddsWith_X11_all rfl (by decide +kernel) rfl t77 rfl rfl rfl rfl dX11_oddsWith_43 (k_m_X11_all X.1.2.1 X.2.1 (g_n X) (g_T X) (g_ag_sub hA (by decide +kernel)) q2.2 a ha)) (fun q3 => ?_)
      refine G_callI (rest := []) (fun a ha => g_runV C (nargs := 1) (As := [.int q3.1]) (rest := []) gX11_oddsWith_X11_weightOf rfl (by decide +kernel) rfl t77 rfl rfl rfl rfl dX11_oddsWith_46 (k_m_X11_weightOf X.1.2.1 X.2.1 (g_n X) (g_T X) (g_ag_sub hA (by decide +kernel)) N q3.1 q3.2 a ha)) (fun q4 => ?_)
      refine G_istore C dX11_oddsWith_49 rfl (lv' := [(5, .int q4.1), (4, .int q2.1), (0, .ref (g_b X + 77)), (1, .int x1), (2, .int x2), (3, .int x3)]) rfl ?_
      refine G_iconst C dX11_oddsWith_51 (v := 0) (by decide +kernel) ?_
      refine G_istore C dX11_oddsWith_52 rfl (lv' := [(6, .int (0 : Int32)), (5, .int q4.1), (4, .int q2.1), (0, .ref (g_b X + 77)), (1, .int x1), (2, .int x2), (3, .int x3)]) rfl ?_
      exact G_sub (w_m_X11_oddsWith_54 C q hA N N x2 x3 q2.1 q4.1 (0 : Int32) q4.2) [3, 5, 6, 2, 1, 0] rfl
    · refine G_aload_n C dX11_oddsWith_10 rfl 0 rfl ?_
      refine G_getR C f_X11_oddsWith_25 t77 rfl dX11_oddsWith_11 ?_
      refine G_iload C dX11_oddsWith_14 4 rfl ?_
      refine G_iload C dX11_oddsWith_16 4 rfl ?_
      refine G_if_ne C dX11_oddsWith_18 (tgt := 26) (by decide) (fun c5 => ?_) (fun c5 => ?_)
      · refine G_ldc C dX11_oddsWith_21 c_X11_oddsWith_184 ?_
        refine G_goto C dX11_oddsWith_23 (tgt := 27) (by decide) ?_
        exact w_m_X11_oddsWith_27 C q hA (m_X11_oddsWith_3 N fu) ih N x1 x2 x3 x4 x4 (1000000000 : Int32) σ
      · refine G_iconst C dX11_oddsWith_26 (v := 0) (by decide +kernel) ?_
        exact w_m_X11_oddsWith_27 C q hA (m_X11_oddsWith_3 N fu) ih N x1 x2 x3 x4 x4 (0 : Int32) σ
set_option maxHeartbeats 4000000 in
set_option maxRecDepth 100000 in
theorem w_m_X11_oddsWith_0 {X : g_X (Int32 × g_St)} (C : g_C X cX11_oddsWith RX11 wsX11_oddsWith rm_m_X11_oddsWith 9) (q : g_qI X) (hA : g_ag L_m_X11_oddsWith (g_n X) (g_T X)) (N : Nat) (x1 : Int32) (x2 : Int32) (x3 : Int32) (σ : g_St) : G X 0 [(0, .ref (g_b X + 77)), (1, .int x1), (2, .int x2), (3, .int x3)] [] σ (m_X11_oddsWith N x1 x2 x3 σ) := by
  unfold m_X11_oddsWith
  refine G_iconst C dX11_oddsWith_0 (v := 0) (by decide +kernel) ?_
  refine G_istore C dX11_oddsWith_1 rfl (lv' := [(4, .int (0 : Int32)), (0, .ref (g_b X + 77)), (1, .int x1), (2, .int x2), (3, .int x3)]) rfl ?_
  exact G_sub (w_m_X11_oddsWith_3 C q hA N N x1 x2 x3 (0 : Int32) σ) [1, 2, 3, 4, 0] rfl
theorem k_m_X11_oddsWith (l : Launch) (E : g_E) (n : Nat) (T : Nat → g_Sh) (hA : g_ag L_m_X11_oddsWith n T) (N : Nat) (x1 : Int32) (x2 : Int32) (x3 : Int32) (σ : g_St) (a : Int32 × g_St) (h : m_X11_oddsWith N x1 x2 x3 σ = some a) : Met l yX11_oddsWith wsX11_oddsWith rm_m_X11_oddsWith (g_Pc E n T [.ref (E.2.1 + 77), .int x1, .int x2, .int x3] σ) (g_Qi E n T a) 0 0 (g_A E) :=
  g_metI (by decide +kernel) rfl rfl (Nat.le_of_ble_eq_true rfl) (fun M Qf C q => by rw [← h]; exact w_m_X11_oddsWith_0 C q hA N x1 x2 x3 σ)
