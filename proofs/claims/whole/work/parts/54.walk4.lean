def L_m_X10_told : List Nat := [0, 13, 14, 16, 17, 22, 67, 69, 74]
abbrev rm_m_X10_told : Room := { frames := 2, cells := 0, slots := 0, locals := 54 }
theorem f_X10_told_121 : g_Fld wsX10_told RX10 121 7 2 := ⟨RX7, TX7, 6, rfl, by decide +kernel, by decide, by decide +kernel⟩
theorem f_X10_told_124 : g_Fld wsX10_told RX10 124 7 3 := ⟨RX7, TX7, 6, rfl, by decide +kernel, by decide, by decide +kernel⟩
theorem f_X10_told_127 : g_Fld wsX10_told RX10 127 4 6 := ⟨RX4, TX4, 8, rfl, by decide +kernel, by decide, by decide +kernel⟩
theorem f_X10_told_130 : g_Fld wsX10_told RX10 130 4 7 := ⟨RX4, TX4, 8, rfl, by decide +kernel, by decide, by decide +kernel⟩
theorem f_X10_told_133 : g_Fld wsX10_told RX10 133 7 4 := ⟨RX7, TX7, 6, rfl, by decide +kernel, by decide, by decide +kernel⟩
theorem f_X10_told_136 : g_Fld wsX10_told RX10 136 7 5 := ⟨RX7, TX7, 6, rfl, by decide +kernel, by decide, by decide +kernel⟩
theorem f_X10_told_140 : g_Fld wsX10_told RX10 140 4 5 := ⟨RX4, TX4, 8, rfl, by decide +kernel, by decide, by decide +kernel⟩
theorem f_X10_told_147 : g_Fld wsX10_told RX10 147 4 0 := ⟨RX4, TX4, 8, rfl, by decide +kernel, by decide, by decide +kernel⟩
theorem f_X10_told_153 : g_Fld wsX10_told RX10 153 8 1 := ⟨RX8, TX8, 2, rfl, by decide +kernel, by decide, by decide +kernel⟩
theorem f_X10_told_156 : g_Fld wsX10_told RX10 156 1 4 := ⟨RX1, TX1, 8, rfl, by decide +kernel, by decide, by decide +kernel⟩
theorem f_X10_told_157 : g_Fld wsX10_told RX10 157 0 1 := ⟨RX0, TX0, 2, rfl, by decide +kernel, by decide, by decide +kernel⟩
theorem f_X10_told_160 : g_Fld wsX10_told RX10 160 5 2 := ⟨RX5, TX5, 3, rfl, by decide +kernel, by decide, by decide +kernel⟩
theorem f_X10_told_23 : g_Fld wsX10_told RX10 23 10 2 := ⟨RX10, TX10, 15, rfl, by decide +kernel, by decide, by decide +kernel⟩
theorem f_X10_told_30 : g_Fld wsX10_told RX10 30 10 3 := ⟨RX10, TX10, 15, rfl, by decide +kernel, by decide, by decide +kernel⟩
theorem f_X10_told_37 : g_Fld wsX10_told RX10 37 10 4 := ⟨RX10, TX10, 15, rfl, by decide +kernel, by decide, by decide +kernel⟩
theorem f_X10_told_65 : g_Fld wsX10_told RX10 65 10 8 := ⟨RX10, TX10, 15, rfl, by decide +kernel, by decide, by decide +kernel⟩
theorem f_X10_told_72 : g_Fld wsX10_told RX10 72 10 9 := ⟨RX10, TX10, 15, rfl, by decide +kernel, by decide, by decide +kernel⟩
theorem f_X10_told_79 : g_Fld wsX10_told RX10 79 10 10 := ⟨RX10, TX10, 15, rfl, by decide +kernel, by decide, by decide +kernel⟩
theorem f_X10_told_86 : g_Fld wsX10_told RX10 86 10 12 := ⟨RX10, TX10, 15, rfl, by decide +kernel, by decide, by decide +kernel⟩
theorem c_X10_told_96 : Cond.constant RX10 96 (-1000000002) ∈ wsX10_told := by decide +kernel
set_option maxHeartbeats 4000000 in
set_option maxRecDepth 100000 in
theorem w_m_X10_told_0 {X : g_X (Int32 × g_St)} (C : g_C X cX10_told RX10 wsX10_told rm_m_X10_told 2) (q : g_qI X) (hA : g_ag L_m_X10_told (g_n X) (g_T X)) (N : Nat) (x1 : Int32) (σ : g_St) : G X 0 [(0, .ref (g_b X + 0)), (1, .int x1)] [] σ (m_X10_told N x1 σ) := by
  have t0 := g_ag_at hA (c := 0) rfl tc0
  have t13 := g_ag_at hA (c := 13) rfl tc13
  have t16 := g_ag_at hA (c := 16) rfl tc16
  have t22 := g_ag_at hA (c := 22) rfl tc22
  have t67 := g_ag_at hA (c := 67) rfl tc67
  have t69 := g_ag_at hA (c := 69) rfl tc69
  have t74 := g_ag_at hA (c := 74) rfl tc74
  unfold m_X10_told
  refine G_iload_n C dX10_told_0 rfl 1 rfl ?_
  refine G_ite (fun e1 => ?_) (fun e1 => ?_)
  · refine G_tsIn C dX10_told_1 e1 (off := 71) (tgt := 72) (by decide +kernel) ?_
    refine G_aload_n C dX10_told_72 rfl 0 rfl ?_
    refine G_getR C f_X10_told_23 t0 rfl dX10_told_73 ?_
    refine G_getI C f_X10_told_121 t13 rfl dX10_told_76 ?_
    exact G_iret C q dX10_told_79
  · refine G_ite (fun e2 => ?_) (fun e2 => ?_)
    · refine G_tsIn C dX10_told_1 e2 (off := 79) (tgt := 80) (by decide +kernel) ?_
      refine G_aload_n C dX10_told_80 rfl 0 rfl ?_
      refine G_getR C f_X10_told_23 t0 rfl dX10_told_81 ?_
      refine G_getI C f_X10_told_124 t13 rfl dX10_told_84 ?_
      exact G_iret C q dX10_told_87
    · refine G_ite (fun e3 => ?_) (fun e3 => ?_)
      · refine G_tsIn C dX10_told_1 e3 (off := 87) (tgt := 88) (by decide +kernel) ?_
        refine G_aload_n C dX10_told_88 rfl 0 rfl ?_
        refine G_getI C f_X10_told_86 t0 rfl dX10_told_89 ?_
        exact G_iret C q dX10_told_92
      · refine G_ite (fun e4 => ?_) (fun e4 => ?_)
        · refine G_tsIn C dX10_told_1 e4 (off := 92) (tgt := 93) (by decide +kernel) ?_
          refine G_aload_n C dX10_told_93 rfl 0 rfl ?_
          refine G_getR C f_X10_told_30 t0 rfl dX10_told_94 ?_
          refine G_getI C f_X10_told_127 t16 rfl dX10_told_97 ?_
          exact G_iret C q dX10_told_100
        · refine G_ite (fun e5 => ?_) (fun e5 => ?_)
          · refine G_tsIn C dX10_told_1 e5 (off := 100) (tgt := 101) (by decide +kernel) ?_
            refine G_aload_n C dX10_told_101 rfl 0 rfl ?_
            refine G_getR C f_X10_told_30 t0 rfl dX10_told_102 ?_
            refine G_getI C f_X10_told_130 t16 rfl dX10_told_105 ?_
            exact G_iret C q dX10_told_108
          · refine G_ite (fun e6 => ?_) (fun e6 => ?_)
            · refine G_tsIn C dX10_told_1 e6 (off := 108) (tgt := 109) (by decide +kernel) ?_
              refine G_aload_n C dX10_told_109 rfl 0 rfl ?_
              refine G_getR C f_X10_told_23 t0 rfl dX10_told_110 ?_
              refine G_getI C f_X10_told_133 t13 rfl dX10_told_113 ?_
              exact G_iret C q dX10_told_116
            · refine G_ite (fun e7 => ?_) (fun e7 => ?_)
              · refine G_tsIn C dX10_told_1 e7 (off := 116) (tgt := 117) (by decide +kernel) ?_
                refine G_aload_n C dX10_told_117 rfl 0 rfl ?_
                refine G_getR C f_X10_told_23 t0 rfl dX10_told_118 ?_
                refine G_getI C f_X10_told_136 t13 rfl dX10_told_121 ?_
                refine G_if_eq C dX10_told_124 (tgt := 131) (by decide) (fun c8 => ?_) (fun c8 => ?_)
                · refine G_iconst C dX10_told_131 (v := 0) (by decide +kernel) ?_
                  exact G_iret C q dX10_told_132
                · refine G_iconst C dX10_told_127 (v := 1) (by decide +kernel) ?_
                  refine G_goto C dX10_told_128 (tgt := 132) (by decide) ?_
                  exact G_iret C q dX10_told_132
              · refine G_ite (fun e9 => ?_) (fun e9 => ?_)
                · refine G_tsIn C dX10_told_1 e9 (off := 132) (tgt := 133) (by decide +kernel) ?_
                  refine G_aload_n C dX10_told_133 rfl 0 rfl ?_
                  refine G_getR C f_X10_told_30 t0 rfl dX10_told_134 ?_
                  refine G_getI C f_X10_told_140 t16 rfl dX10_told_137 ?_
                  exact G_iret C q dX10_told_140
                · refine G_ite (fun e10 => ?_) (fun e10 => ?_)
                  · refine G_tsIn C dX10_told_1 e10 (off := 140) (tgt := 141) (by decide +kernel) ?_
                    refine G_aload_n C dX10_told_141 rfl 0 rfl ?_
                    refine G_getR C f_X10_told_23 t0 rfl dX10_told_142 ?_
                    refine G_aload_n C dX10_told_145 rfl 0 rfl ?_
                    refine G_getR C f_X10_told_30 t0 rfl dX10_told_146 ?_
                    refine G_getI C f_X10_told_140 t16 rfl dX10_told_149 ?_
                    refine G_callI (rest := []) (fun a ha => g_runV C (nargs := 1) (As := [.int (σ.1 16 5)]) (rest := []) gX10_told_X7_weightOf rfl (by decide +kernel) rfl t13 rfl rfl rfl rfl dX10_told_152 (k_m_X7_weightOf X.1.2.1 X.2.1 (g_n X) (g_T X) (g_ag_sub hA (by decide +kernel)) N (σ.1 16 5) σ a ha)) (fun q11 => ?_)
                    exact G_iret C q dX10_told_155
                  · refine G_ite (fun e12 => ?_) (fun e12 => ?_)
                    · refine G_tsIn C dX10_told_1 e12 (off := 155) (tgt := 156) (by decide +kernel) ?_
                      refine G_aload_n C dX10_told_156 rfl 0 rfl ?_
                      refine G_getR C f_X10_told_30 t0 rfl dX10_told_157 ?_
                      refine G_getR C f_X10_told_147 t16 rfl dX10_told_160 ?_
                      refine G_aload_n C dX10_told_163 rfl 0 rfl ?_
                      refine G_getR C f_X10_told_23 t0 rfl dX10_told_164 ?_
                      refine G_getI C f_X10_told_121 t13 rfl dX10_told_167 ?_
                      refine G_callI (rest := []) (fun a ha => g_runS C (nargs := 2) (As := [.ref (g_b X + 17), .int (σ.1 13 2)]) (rest := []) gX10_told_X10_spreadOf rfl (by decide +kernel) rfl rfl rfl dX10_told_170 (k_m_X10_spreadOf_17 X.1.2.1 X.2.1 (g_n X) (g_T X) (g_ag_sub hA (by decide +kernel)) N (σ.1 13 2) σ a ha)) (fun q13 => ?_)
                      exact G_iret C q dX10_told_173
                    · refine G_ite (fun e14 => ?_) (fun e14 => ?_)
                      · refine G_tsIn C dX10_told_1 e14 (off := 173) (tgt := 174) (by decide +kernel) ?_
                        refine G_aload_n C dX10_told_174 rfl 0 rfl ?_
                        refine G_getR C f_X10_told_65 t0 rfl dX10_told_175 ?_
                        refine G_getI C f_X10_told_153 t67 rfl dX10_told_178 ?_
                        exact G_iret C q dX10_told_181
                      · refine G_ite (fun e15 => ?_) (fun e15 => ?_)
                        · refine G_tsIn C dX10_told_1 e15 (off := 181) (tgt := 182) (by decide +kernel) ?_
                          refine G_aload_n C dX10_told_182 rfl 0 rfl ?_
                          refine G_getR C f_X10_told_72 t0 rfl dX10_told_183 ?_
                          refine G_getI C f_X10_told_156 t69 rfl dX10_told_186 ?_
                          exact G_iret C q dX10_told_189
                        · refine G_ite (fun e16 => ?_) (fun e16 => ?_)
                          · refine G_tsIn C dX10_told_1 e16 (off := 189) (tgt := 190) (by decide +kernel) ?_
                            refine G_aload_n C dX10_told_190 rfl 0 rfl ?_
                            refine G_getR C f_X10_told_79 t0 rfl dX10_told_191 ?_
                            refine G_getI C f_X10_told_157 t74 rfl dX10_told_194 ?_
                            exact G_iret C q dX10_told_197
                          · refine G_ite (fun e17 => ?_) (fun e17 => ?_)
                            · refine G_tsIn C dX10_told_1 e17 (off := 197) (tgt := 198) (by decide +kernel) ?_
                              refine G_aload_n C dX10_told_198 rfl 0 rfl ?_
                              refine G_getR C f_X10_told_37 t0 rfl dX10_told_199 ?_
                              refine G_getI C f_X10_told_160 t22 rfl dX10_told_202 ?_
                              exact G_iret C q dX10_told_205
                            · refine G_tsOut C dX10_told_1 (by have u0 := lv_neT e1 (a := 0) (by decide +kernel); have u1 := lv_neT e2 (a := 1) (by decide +kernel); have u2 := lv_neT e3 (a := 2) (by decide +kernel); have u3 := lv_neT e4 (a := 3) (by decide +kernel); have u4 := lv_neT e5 (a := 4) (by decide +kernel); have u5 := lv_neT e6 (a := 5) (by decide +kernel); have u6 := lv_neT e7 (a := 6) (by decide +kernel); have u7 := lv_neT e9 (a := 7) (by decide +kernel); have u8 := lv_neT e10 (a := 8) (by decide +kernel); have u9 := lv_neT e12 (a := 9) (by decide +kernel); have u10 := lv_neT e14 (a := 10) (by decide +kernel); have u11 := lv_neT e15 (a := 11) (by decide +kernel); have u12 := lv_neT e16 (a := 12) (by decide +kernel); have u13 := lv_neT e17 (a := 13) (by decide +kernel); omega) (tgt := 206) (by decide) ?_
                              refine G_ldc C dX10_told_206 c_X10_told_96 ?_
                              exact G_iret C q dX10_told_208
theorem k_m_X10_told (l : Launch) (E : g_E) (n : Nat) (T : Nat → g_Sh) (hA : g_ag L_m_X10_told n T) (N : Nat) (x1 : Int32) (σ : g_St) (a : Int32 × g_St) (h : m_X10_told N x1 σ = some a) : Met l yX10_told wsX10_told rm_m_X10_told (g_Pc E n T [.ref (E.2.1 + 0), .int x1] σ) (g_Qi E n T a) 0 0 (g_A E) :=
  g_metI (by decide +kernel) rfl rfl (Nat.le_of_ble_eq_true rfl) (fun M Qf C q => by rw [← h]; exact w_m_X10_told_0 C q hA N x1 σ)
def L_m_X10_isPerson : List Nat := [0, 13]
abbrev rm_m_X10_isPerson : Room := { frames := 0, cells := 0, slots := 0, locals := 0 }
theorem f_X10_isPerson_121 : g_Fld wsX10_isPerson RX10 121 7 2 := ⟨RX7, TX7, 6, rfl, by decide +kernel, by decide, by decide +kernel⟩
theorem f_X10_isPerson_23 : g_Fld wsX10_isPerson RX10 23 10 2 := ⟨RX10, TX10, 15, rfl, by decide +kernel, by decide, by decide +kernel⟩
set_option maxHeartbeats 4000000 in
set_option maxRecDepth 100000 in
theorem w_m_X10_isPerson_0 {X : g_X (Int32 × g_St)} (C : g_C X cX10_isPerson RX10 wsX10_isPerson rm_m_X10_isPerson 2) (q : g_qZ X) (hA : g_ag L_m_X10_isPerson (g_n X) (g_T X)) (x1 : Int32) (σ : g_St) : G X 0 [(0, .ref (g_b X + 0)), (1, .int x1)] [] σ (m_X10_isPerson x1 σ) := by
  have t0 := g_ag_at hA (c := 0) rfl tc0
  have t13 := g_ag_at hA (c := 13) rfl tc13
  unfold m_X10_isPerson
  refine G_iload_n C dX10_isPerson_0 rfl 1 rfl ?_
  refine G_if_lt C dX10_isPerson_1 (tgt := 19) (by decide) (fun c1 => ?_) (fun c1 => ?_)
  · refine G_iconst C dX10_isPerson_19 (v := 0) (by decide +kernel) ?_
    exact G_zret C q (by decide) dX10_isPerson_20
  · refine G_iload_n C dX10_isPerson_4 rfl 1 rfl ?_
    refine G_aload_n C dX10_isPerson_5 rfl 0 rfl ?_
    refine G_getR C f_X10_isPerson_23 t0 rfl dX10_isPerson_6 ?_
    refine G_getI C f_X10_isPerson_121 t13 rfl dX10_isPerson_9 ?_
    refine G_icmp_ge C dX10_isPerson_12 (tgt := 19) (by decide) (fun c2 => ?_) (fun c2 => ?_)
    · refine G_iconst C dX10_isPerson_19 (v := 0) (by decide +kernel) ?_
      exact G_zret C q (by decide) dX10_isPerson_20
    · refine G_iconst C dX10_isPerson_15 (v := 1) (by decide +kernel) ?_
      refine G_goto C dX10_isPerson_16 (tgt := 20) (by decide) ?_
      exact G_zret C q (by decide) dX10_isPerson_20
theorem k_m_X10_isPerson (l : Launch) (E : g_E) (n : Nat) (T : Nat → g_Sh) (hA : g_ag L_m_X10_isPerson n T) (x1 : Int32) (σ : g_St) (a : Int32 × g_St) (h : m_X10_isPerson x1 σ = some a) : Met l yX10_isPerson wsX10_isPerson rm_m_X10_isPerson (g_Pc E n T [.ref (E.2.1 + 0), .int x1] σ) (g_Qi E n T a) 0 0 (g_A E) :=
  g_metZ (by decide +kernel) rfl rfl (Nat.le_of_ble_eq_true rfl) (fun M Qf C q => by rw [← h]; exact w_m_X10_isPerson_0 C q hA x1 σ)
def L_m_X10_person : List Nat := [0, 13, 15, 16, 17, 18, 19, 20]
abbrev rm_m_X10_person : Room := { frames := 2, cells := 0, slots := 0, locals := 45 }
theorem f_X10_person_124 : g_Fld wsX10_person RX10 124 7 3 := ⟨RX7, TX7, 6, rfl, by decide +kernel, by decide, by decide +kernel⟩
theorem f_X10_person_147 : g_Fld wsX10_person RX10 147 4 0 := ⟨RX4, TX4, 8, rfl, by decide +kernel, by decide, by decide +kernel⟩
theorem f_X10_person_168 : g_Fld wsX10_person RX10 168 4 1 := ⟨RX4, TX4, 8, rfl, by decide +kernel, by decide, by decide +kernel⟩
theorem f_X10_person_23 : g_Fld wsX10_person RX10 23 10 2 := ⟨RX10, TX10, 15, rfl, by decide +kernel, by decide, by decide +kernel⟩
theorem f_X10_person_30 : g_Fld wsX10_person RX10 30 10 3 := ⟨RX10, TX10, 15, rfl, by decide +kernel, by decide, by decide +kernel⟩
theorem c_X10_person_167 : Cond.constant RX10 167 (-1000000001) ∈ wsX10_person := by decide +kernel
theorem c_X10_person_96 : Cond.constant RX10 96 (-1000000002) ∈ wsX10_person := by decide +kernel
set_option maxHeartbeats 4000000 in
set_option maxRecDepth 100000 in
theorem w_m_X10_person_0 {X : g_X (Int32 × g_St)} (C : g_C X cX10_person RX10 wsX10_person rm_m_X10_person 3) (q : g_qI X) (hA : g_ag L_m_X10_person (g_n X) (g_T X)) (N : Nat) (x1 : Int32) (x2 : Int32) (σ : g_St) : G X 0 [(0, .ref (g_b X + 0)), (1, .int x1), (2, .int x2)] [] σ (m_X10_person N x1 x2 σ) := by
  have t0 := g_ag_at hA (c := 0) rfl tc0
  have t13 := g_ag_at hA (c := 13) rfl tc13
  have t16 := g_ag_at hA (c := 16) rfl tc16
  have t17 := g_ag_at hA (c := 17) rfl tc17
  have t18 := g_ag_at hA (c := 18) rfl tc18
  unfold m_X10_person
  refine G_aload_n C dX10_person_0 rfl 0 rfl ?_
  refine G_iload_n C dX10_person_1 rfl 1 rfl ?_
  refine G_callI (rest := []) (fun a ha => g_runV C (nargs := 1) (As := [.int x1]) (rest := []) gX10_person_X10_isPerson rfl (by decide +kernel) rfl t0 rfl rfl rfl rfl dX10_person_2 (k_m_X10_isPerson X.1.2.1 X.2.1 (g_n X) (g_T X) (g_ag_sub hA (by decide +kernel)) x1 σ a ha)) (fun q1 => ?_)
  refine G_if_ne C dX10_person_5 (tgt := 11) (by decide) (fun c2 => ?_) (fun c2 => ?_)
  · refine G_ldc C dX10_person_8 c_X10_person_167 ?_
    exact G_iret C q dX10_person_10
  · refine G_iload_n C dX10_person_11 rfl 2 rfl ?_
    refine G_ite (fun e3 => ?_) (fun e3 => ?_)
    · refine G_tsIn C dX10_person_12 e3 (off := 36) (tgt := 48) (by decide +kernel) ?_
      refine G_aload_n C dX10_person_48 rfl 0 rfl ?_
      refine G_getR C f_X10_person_30 t0 rfl dX10_person_49 ?_
      refine G_getR C f_X10_person_147 t16 rfl dX10_person_52 ?_
      refine G_iload_n C dX10_person_55 rfl 1 rfl ?_
      refine G_chk (fun h4 => ?_)
      refine G_ald C t17 h4 dX10_person_56 ?_
      exact G_iret C q dX10_person_57
    · refine G_ite (fun e5 => ?_) (fun e5 => ?_)
      · refine G_tsIn C dX10_person_12 e5 (off := 46) (tgt := 58) (by decide +kernel) ?_
        refine G_aload_n C dX10_person_58 rfl 0 rfl ?_
        refine G_getR C f_X10_person_30 t0 rfl dX10_person_59 ?_
        refine G_getR C f_X10_person_168 t16 rfl dX10_person_62 ?_
        refine G_iload_n C dX10_person_65 rfl 1 rfl ?_
        refine G_chk (fun h6 => ?_)
        refine G_ald C t18 h6 dX10_person_66 ?_
        exact G_iret C q dX10_person_67
      · refine G_ite (fun e7 => ?_) (fun e7 => ?_)
        · refine G_tsIn C dX10_person_12 e7 (off := 56) (tgt := 68) (by decide +kernel) ?_
          refine G_aload_n C dX10_person_68 rfl 0 rfl ?_
          refine G_getR C f_X10_person_23 t0 rfl dX10_person_69 ?_
          refine G_aload_n C dX10_person_72 rfl 0 rfl ?_
          refine G_getR C f_X10_person_30 t0 rfl dX10_person_73 ?_
          refine G_getR C f_X10_person_147 t16 rfl dX10_person_76 ?_
          refine G_iload_n C dX10_person_79 rfl 1 rfl ?_
          refine G_chk (fun h8 => ?_)
          refine G_ald C t17 h8 dX10_person_80 ?_
          refine G_callI (rest := []) (fun a ha => g_runV C (nargs := 1) (As := [.int (q1.2.1 17 x1.toNatClampNeg)]) (rest := []) gX10_person_X7_rightsAt rfl (by decide +kernel) rfl t13 rfl rfl rfl rfl dX10_person_81 (k_m_X7_rightsAt X.1.2.1 X.2.1 (g_n X) (g_T X) (g_ag_sub hA (by decide +kernel)) N (q1.2.1 17 x1.toNatClampNeg) q1.2 a ha)) (fun q9 => ?_)
          exact G_iret C q dX10_person_84
        · refine G_ite (fun e10 => ?_) (fun e10 => ?_)
          · refine G_tsIn C dX10_person_12 e10 (off := 73) (tgt := 85) (by decide +kernel) ?_
            refine G_aload_n C dX10_person_85 rfl 0 rfl ?_
            refine G_getR C f_X10_person_30 t0 rfl dX10_person_86 ?_
            refine G_iload_n C dX10_person_89 rfl 1 rfl ?_
            refine G_aload_n C dX10_person_90 rfl 0 rfl ?_
            refine G_getR C f_X10_person_23 t0 rfl dX10_person_91 ?_
            refine G_getI C f_X10_person_124 t13 rfl dX10_person_94 ?_
            refine G_callI (rest := []) (fun a ha => g_runV C (nargs := 2) (As := [.int x1, .int (q1.2.1 13 3)]) (rest := []) gX10_person_X4_heldBy rfl (by decide +kernel) rfl t16 rfl rfl rfl rfl dX10_person_97 (k_m_X4_heldBy X.1.2.1 X.2.1 (g_n X) (g_T X) (g_ag_sub hA (by decide +kernel)) N x1 (q1.2.1 13 3) q1.2 a ha)) (fun q11 => ?_)
            exact G_iret C q dX10_person_100
          · refine G_ite (fun e12 => ?_) (fun e12 => ?_)
            · refine G_tsIn C dX10_person_12 e12 (off := 89) (tgt := 101) (by decide +kernel) ?_
              refine G_aload_n C dX10_person_101 rfl 0 rfl ?_
              refine G_getR C f_X10_person_30 t0 rfl dX10_person_102 ?_
              refine G_iload_n C dX10_person_105 rfl 1 rfl ?_
              refine G_aload_n C dX10_person_106 rfl 0 rfl ?_
              refine G_getR C f_X10_person_23 t0 rfl dX10_person_107 ?_
              refine G_getI C f_X10_person_124 t13 rfl dX10_person_110 ?_
              refine G_callI (rest := []) (fun a ha => g_runV C (nargs := 2) (As := [.int x1, .int (q1.2.1 13 3)]) (rest := []) gX10_person_X4_agingFor rfl (by decide +kernel) rfl t16 rfl rfl rfl rfl dX10_person_113 (k_m_X4_agingFor X.1.2.1 X.2.1 (g_n X) (g_T X) (g_ag_sub hA (by decide +kernel)) N x1 (q1.2.1 13 3) q1.2 a ha)) (fun q13 => ?_)
              exact G_iret C q dX10_person_116
            · refine G_tsOut C dX10_person_12 (by have u0 := lv_neT e3 (a := 0) (by decide +kernel); have u1 := lv_neT e5 (a := 1) (by decide +kernel); have u2 := lv_neT e7 (a := 2) (by decide +kernel); have u3 := lv_neT e10 (a := 3) (by decide +kernel); have u4 := lv_neT e12 (a := 4) (by decide +kernel); omega) (tgt := 117) (by decide) ?_
              refine G_ldc C dX10_person_117 c_X10_person_96 ?_
              exact G_iret C q dX10_person_119
theorem k_m_X10_person (l : Launch) (E : g_E) (n : Nat) (T : Nat → g_Sh) (hA : g_ag L_m_X10_person n T) (N : Nat) (x1 : Int32) (x2 : Int32) (σ : g_St) (a : Int32 × g_St) (h : m_X10_person N x1 x2 σ = some a) : Met l yX10_person wsX10_person rm_m_X10_person (g_Pc E n T [.ref (E.2.1 + 0), .int x1, .int x2] σ) (g_Qi E n T a) 0 0 (g_A E) :=
  g_metI (by decide +kernel) rfl rfl (Nat.le_of_ble_eq_true rfl) (fun M Qf C q => by rw [← h]; exact w_m_X10_person_0 C q hA N x1 x2 σ)
def L_m_X10_isTicket : List Nat := [0, 13]
abbrev rm_m_X10_isTicket : Room := { frames := 0, cells := 0, slots := 0, locals := 0 }
theorem f_X10_isTicket_124 : g_Fld wsX10_isTicket RX10 124 7 3 := ⟨RX7, TX7, 6, rfl, by decide +kernel, by decide, by decide +kernel⟩
theorem f_X10_isTicket_23 : g_Fld wsX10_isTicket RX10 23 10 2 := ⟨RX10, TX10, 15, rfl, by decide +kernel, by decide, by decide +kernel⟩
set_option maxHeartbeats 4000000 in
set_option maxRecDepth 100000 in
theorem w_m_X10_isTicket_0 {X : g_X (Int32 × g_St)} (C : g_C X cX10_isTicket RX10 wsX10_isTicket rm_m_X10_isTicket 2) (q : g_qZ X) (hA : g_ag L_m_X10_isTicket (g_n X) (g_T X)) (x1 : Int32) (σ : g_St) : G X 0 [(0, .ref (g_b X + 0)), (1, .int x1)] [] σ (m_X10_isTicket x1 σ) := by
  have t0 := g_ag_at hA (c := 0) rfl tc0
  have t13 := g_ag_at hA (c := 13) rfl tc13
  unfold m_X10_isTicket
  refine G_iload_n C dX10_isTicket_0 rfl 1 rfl ?_
  refine G_if_lt C dX10_isTicket_1 (tgt := 19) (by decide) (fun c1 => ?_) (fun c1 => ?_)
  · refine G_iconst C dX10_isTicket_19 (v := 0) (by decide +kernel) ?_
    exact G_zret C q (by decide) dX10_isTicket_20
  · refine G_iload_n C dX10_isTicket_4 rfl 1 rfl ?_
    refine G_aload_n C dX10_isTicket_5 rfl 0 rfl ?_
    refine G_getR C f_X10_isTicket_23 t0 rfl dX10_isTicket_6 ?_
    refine G_getI C f_X10_isTicket_124 t13 rfl dX10_isTicket_9 ?_
    refine G_icmp_ge C dX10_isTicket_12 (tgt := 19) (by decide) (fun c2 => ?_) (fun c2 => ?_)
    · refine G_iconst C dX10_isTicket_19 (v := 0) (by decide +kernel) ?_
      exact G_zret C q (by decide) dX10_isTicket_20
    · refine G_iconst C dX10_isTicket_15 (v := 1) (by decide +kernel) ?_
      refine G_goto C dX10_isTicket_16 (tgt := 20) (by decide) ?_
      exact G_zret C q (by decide) dX10_isTicket_20
theorem k_m_X10_isTicket (l : Launch) (E : g_E) (n : Nat) (T : Nat → g_Sh) (hA : g_ag L_m_X10_isTicket n T) (x1 : Int32) (σ : g_St) (a : Int32 × g_St) (h : m_X10_isTicket x1 σ = some a) : Met l yX10_isTicket wsX10_isTicket rm_m_X10_isTicket (g_Pc E n T [.ref (E.2.1 + 0), .int x1] σ) (g_Qi E n T a) 0 0 (g_A E) :=
  g_metZ (by decide +kernel) rfl rfl (Nat.le_of_ble_eq_true rfl) (fun M Qf C q => by rw [← h]; exact w_m_X10_isTicket_0 C q hA x1 σ)
def L_m_X10_ticket : List Nat := [0, 13, 14, 16, 19, 20, 21]
abbrev rm_m_X10_ticket : Room := { frames := 1, cells := 0, slots := 0, locals := 21 }
theorem f_X10_ticket_184 : g_Fld wsX10_ticket RX10 184 4 2 := ⟨RX4, TX4, 8, rfl, by decide +kernel, by decide, by decide +kernel⟩
theorem f_X10_ticket_187 : g_Fld wsX10_ticket RX10 187 7 0 := ⟨RX7, TX7, 6, rfl, by decide +kernel, by decide, by decide +kernel⟩
theorem f_X10_ticket_190 : g_Fld wsX10_ticket RX10 190 4 4 := ⟨RX4, TX4, 8, rfl, by decide +kernel, by decide, by decide +kernel⟩
theorem f_X10_ticket_193 : g_Fld wsX10_ticket RX10 193 4 3 := ⟨RX4, TX4, 8, rfl, by decide +kernel, by decide, by decide +kernel⟩
theorem f_X10_ticket_23 : g_Fld wsX10_ticket RX10 23 10 2 := ⟨RX10, TX10, 15, rfl, by decide +kernel, by decide, by decide +kernel⟩
theorem f_X10_ticket_30 : g_Fld wsX10_ticket RX10 30 10 3 := ⟨RX10, TX10, 15, rfl, by decide +kernel, by decide, by decide +kernel⟩
theorem c_X10_ticket_167 : Cond.constant RX10 167 (-1000000001) ∈ wsX10_ticket := by decide +kernel
theorem c_X10_ticket_96 : Cond.constant RX10 96 (-1000000002) ∈ wsX10_ticket := by decide +kernel
set_option maxHeartbeats 4000000 in
set_option maxRecDepth 100000 in
theorem w_m_X10_ticket_0 {X : g_X (Int32 × g_St)} (C : g_C X cX10_ticket RX10 wsX10_ticket rm_m_X10_ticket 3) (q : g_qI X) (hA : g_ag L_m_X10_ticket (g_n X) (g_T X)) (x1 : Int32) (x2 : Int32) (σ : g_St) : G X 0 [(0, .ref (g_b X + 0)), (1, .int x1), (2, .int x2)] [] σ (m_X10_ticket x1 x2 σ) := by
  have t0 := g_ag_at hA (c := 0) rfl tc0
  have t13 := g_ag_at hA (c := 13) rfl tc13
  have t14 := g_ag_at hA (c := 14) rfl tc14
  have t16 := g_ag_at hA (c := 16) rfl tc16
  have t19 := g_ag_at hA (c := 19) rfl tc19
  have t20 := g_ag_at hA (c := 20) rfl tc20
  have t21 := g_ag_at hA (c := 21) rfl tc21
  unfold m_X10_ticket
  refine G_aload_n C dX10_ticket_0 rfl 0 rfl ?_
  refine G_iload_n C dX10_ticket_1 rfl 1 rfl ?_
  refine G_callI (rest := []) (fun a ha => g_runV C (nargs := 1) (As := [.int x1]) (rest := []) gX10_ticket_X10_isTicket rfl (by decide +kernel) rfl t0 rfl rfl rfl rfl dX10_ticket_2 (k_m_X10_isTicket X.1.2.1 X.2.1 (g_n X) (g_T X) (g_ag_sub hA (by decide +kernel)) x1 σ a ha)) (fun q1 => ?_)
  refine G_if_ne C dX10_ticket_5 (tgt := 11) (by decide) (fun c2 => ?_) (fun c2 => ?_)
  · refine G_ldc C dX10_ticket_8 c_X10_ticket_167 ?_
    exact G_iret C q dX10_ticket_10
  · refine G_iload_n C dX10_ticket_11 rfl 2 rfl ?_
    refine G_ite (fun e3 => ?_) (fun e3 => ?_)
    · refine G_tsIn C dX10_ticket_12 e3 (off := 32) (tgt := 44) (by decide +kernel) ?_
      refine G_aload_n C dX10_ticket_44 rfl 0 rfl ?_
      refine G_getR C f_X10_ticket_30 t0 rfl dX10_ticket_45 ?_
      refine G_getR C f_X10_ticket_184 t16 rfl dX10_ticket_48 ?_
      refine G_iload_n C dX10_ticket_51 rfl 1 rfl ?_
      refine G_chk (fun h4 => ?_)
      refine G_ald C t19 h4 dX10_ticket_52 ?_
      exact G_iret C q dX10_ticket_53
    · refine G_ite (fun e5 => ?_) (fun e5 => ?_)
      · refine G_tsIn C dX10_ticket_12 e5 (off := 42) (tgt := 54) (by decide +kernel) ?_
        refine G_aload_n C dX10_ticket_54 rfl 0 rfl ?_
        refine G_getR C f_X10_ticket_23 t0 rfl dX10_ticket_55 ?_
        refine G_getR C f_X10_ticket_187 t13 rfl dX10_ticket_58 ?_
        refine G_iload_n C dX10_ticket_61 rfl 1 rfl ?_
        refine G_chk (fun h6 => ?_)
        refine G_ald C t14 h6 dX10_ticket_62 ?_
        exact G_iret C q dX10_ticket_63
      · refine G_ite (fun e7 => ?_) (fun e7 => ?_)
        · refine G_tsIn C dX10_ticket_12 e7 (off := 52) (tgt := 64) (by decide +kernel) ?_
          refine G_aload_n C dX10_ticket_64 rfl 0 rfl ?_
          refine G_getR C f_X10_ticket_30 t0 rfl dX10_ticket_65 ?_
          refine G_getR C f_X10_ticket_190 t16 rfl dX10_ticket_68 ?_
          refine G_iload_n C dX10_ticket_71 rfl 1 rfl ?_
          refine G_chk (fun h8 => ?_)
          refine G_ald C t21 h8 dX10_ticket_72 ?_
          exact G_iret C q dX10_ticket_73
        · refine G_ite (fun e9 => ?_) (fun e9 => ?_)
          · refine G_tsIn C dX10_ticket_12 e9 (off := 62) (tgt := 74) (by decide +kernel) ?_
            refine G_aload_n C dX10_ticket_74 rfl 0 rfl ?_
            refine G_getR C f_X10_ticket_30 t0 rfl dX10_ticket_75 ?_
            refine G_getR C f_X10_ticket_193 t16 rfl dX10_ticket_78 ?_
            refine G_iload_n C dX10_ticket_81 rfl 1 rfl ?_
            refine G_chk (fun h10 => ?_)
            refine G_ald C t20 h10 dX10_ticket_82 ?_
            exact G_iret C q dX10_ticket_83
          · refine G_tsOut C dX10_ticket_12 (by have u0 := lv_neT e3 (a := 0) (by decide +kernel); have u1 := lv_neT e5 (a := 1) (by decide +kernel); have u2 := lv_neT e7 (a := 2) (by decide +kernel); have u3 := lv_neT e9 (a := 3) (by decide +kernel); omega) (tgt := 84) (by decide) ?_
            refine G_ldc C dX10_ticket_84 c_X10_ticket_96 ?_
            exact G_iret C q dX10_ticket_86
theorem k_m_X10_ticket (l : Launch) (E : g_E) (n : Nat) (T : Nat → g_Sh) (hA : g_ag L_m_X10_ticket n T) (x1 : Int32) (x2 : Int32) (σ : g_St) (a : Int32 × g_St) (h : m_X10_ticket x1 x2 σ = some a) : Met l yX10_ticket wsX10_ticket rm_m_X10_ticket (g_Pc E n T [.ref (E.2.1 + 0), .int x1, .int x2] σ) (g_Qi E n T a) 0 0 (g_A E) :=
  g_metI (by decide +kernel) rfl rfl (Nat.le_of_ble_eq_true rfl) (fun M Qf C q => by rw [← h]; exact w_m_X10_ticket_0 C q hA x1 x2 σ)
def L_m_X10_isRight : List Nat := []
abbrev rm_m_X10_isRight : Room := { frames := 0, cells := 0, slots := 0, locals := 0 }
set_option maxHeartbeats 4000000 in
set_option maxRecDepth 100000 in
theorem w_m_X10_isRight_0 {X : g_X (Int32 × g_St)} (C : g_C X cX10_isRight RX10 wsX10_isRight rm_m_X10_isRight 1) (q : g_qZ X) (hA : g_ag L_m_X10_isRight (g_n X) (g_T X)) (x0 : Int32) (σ : g_St) : G X 0 [(0, .int x0)] [] σ (m_X10_isRight x0 σ) := by
  unfold m_X10_isRight
  refine G_iload_n C dX10_isRight_0 rfl 0 rfl ?_
  refine G_if_lt C dX10_isRight_1 (tgt := 13) (by decide) (fun c1 => ?_) (fun c1 => ?_)
  · refine G_iconst C dX10_isRight_13 (v := 0) (by decide +kernel) ?_
    exact G_zret C q (by decide) dX10_isRight_14
  · refine G_iload_n C dX10_isRight_4 rfl 0 rfl ?_
    refine G_iconst C dX10_isRight_5 (v := 4) (by decide +kernel) ?_
    refine G_icmp_ge C dX10_isRight_6 (tgt := 13) (by decide) (fun c2 => ?_) (fun c2 => ?_)
    · refine G_iconst C dX10_isRight_13 (v := 0) (by decide +kernel) ?_
      exact G_zret C q (by decide) dX10_isRight_14
    · refine G_iconst C dX10_isRight_9 (v := 1) (by decide +kernel) ?_
      refine G_goto C dX10_isRight_10 (tgt := 14) (by decide) ?_
      exact G_zret C q (by decide) dX10_isRight_14
theorem k_m_X10_isRight (l : Launch) (E : g_E) (n : Nat) (T : Nat → g_Sh) (hA : g_ag L_m_X10_isRight n T) (x0 : Int32) (σ : g_St) (a : Int32 × g_St) (h : m_X10_isRight x0 σ = some a) : Met l yX10_isRight wsX10_isRight rm_m_X10_isRight (g_Pc E n T [.int x0] σ) (g_Qi E n T a) 0 0 (g_A E) :=
  g_metZ (by decide +kernel) rfl rfl (Nat.le_of_ble_eq_true rfl) (fun M Qf C q => by rw [← h]; exact w_m_X10_isRight_0 C q hA x0 σ)
def L_m_X10_right : List Nat := [0, 13, 15]
abbrev rm_m_X10_right : Room := { frames := 1, cells := 0, slots := 0, locals := 20 }
theorem f_X10_right_199 : g_Fld wsX10_right RX10 199 7 1 := ⟨RX7, TX7, 6, rfl, by decide +kernel, by decide, by decide +kernel⟩
theorem f_X10_right_23 : g_Fld wsX10_right RX10 23 10 2 := ⟨RX10, TX10, 15, rfl, by decide +kernel, by decide, by decide +kernel⟩
theorem c_X10_right_96 : Cond.constant RX10 96 (-1000000002) ∈ wsX10_right := by decide +kernel
set_option maxHeartbeats 4000000 in
set_option maxRecDepth 100000 in
theorem w_m_X10_right_0 {X : g_X (Int32 × g_St)} (C : g_C X cX10_right RX10 wsX10_right rm_m_X10_right 2) (q : g_qI X) (hA : g_ag L_m_X10_right (g_n X) (g_T X)) (x1 : Int32) (σ : g_St) : G X 0 [(0, .ref (g_b X + 0)), (1, .int x1)] [] σ (m_X10_right x1 σ) := by
  have t0 := g_ag_at hA (c := 0) rfl tc0
  have t13 := g_ag_at hA (c := 13) rfl tc13
  have t15 := g_ag_at hA (c := 15) rfl tc15
  unfold m_X10_right
  refine G_iload_n C dX10_right_0 rfl 1 rfl ?_
  refine G_callI (rest := []) (fun a ha => g_runS C (nargs := 1) (As := [.int x1]) (rest := []) gX10_right_X10_isRight rfl (by decide +kernel) rfl rfl rfl dX10_right_1 (k_m_X10_isRight X.1.2.1 X.2.1 (g_n X) (g_T X) (g_ag_sub hA (by decide +kernel)) x1 σ a ha)) (fun q1 => ?_)
  refine G_if_ne C dX10_right_4 (tgt := 10) (by decide) (fun c2 => ?_) (fun c2 => ?_)
  · refine G_ldc C dX10_right_7 c_X10_right_96 ?_
    exact G_iret C q dX10_right_9
  · refine G_aload_n C dX10_right_10 rfl 0 rfl ?_
    refine G_getR C f_X10_right_23 t0 rfl dX10_right_11 ?_
    refine G_getR C f_X10_right_199 t13 rfl dX10_right_14 ?_
    refine G_iload_n C dX10_right_17 rfl 1 rfl ?_
    refine G_chk (fun h3 => ?_)
    refine G_ald C t15 h3 dX10_right_18 ?_
    exact G_iret C q dX10_right_19
theorem k_m_X10_right (l : Launch) (E : g_E) (n : Nat) (T : Nat → g_Sh) (hA : g_ag L_m_X10_right n T) (x1 : Int32) (σ : g_St) (a : Int32 × g_St) (h : m_X10_right x1 σ = some a) : Met l yX10_right wsX10_right rm_m_X10_right (g_Pc E n T [.ref (E.2.1 + 0), .int x1] σ) (g_Qi E n T a) 0 0 (g_A E) :=
  g_metI (by decide +kernel) rfl rfl (Nat.le_of_ble_eq_true rfl) (fun M Qf C q => by rw [← h]; exact w_m_X10_right_0 C q hA x1 σ)
def L_m_X10_drawTicket : List Nat := [0, 13, 16, 17, 18, 19, 20, 21, 22, 23, 24, 25, 26, 27, 28, 29, 30, 31, 32, 33, 34, 35, 36, 37, 38, 39, 40, 41, 42, 43, 44, 45, 46, 47, 48, 49, 50, 51, 52, 53]
abbrev rm_m_X10_drawTicket : Room := { frames := 4, cells := 0, slots := 0, locals := 103 }
theorem f_X10_drawTicket_23 : g_Fld wsX10_drawTicket RX10 23 10 2 := ⟨RX10, TX10, 15, rfl, by decide +kernel, by decide, by decide +kernel⟩
theorem f_X10_drawTicket_30 : g_Fld wsX10_drawTicket RX10 30 10 3 := ⟨RX10, TX10, 15, rfl, by decide +kernel, by decide, by decide +kernel⟩
theorem f_X10_drawTicket_37 : g_Fld wsX10_drawTicket RX10 37 10 4 := ⟨RX10, TX10, 15, rfl, by decide +kernel, by decide, by decide +kernel⟩
set_option maxHeartbeats 4000000 in
set_option maxRecDepth 100000 in
theorem w_m_X10_drawTicket_0 {X : g_X (Int32 × g_St)} (C : g_C X cX10_drawTicket RX10 wsX10_drawTicket rm_m_X10_drawTicket 3) (q : g_qI X) (hA : g_ag L_m_X10_drawTicket (g_n X) (g_T X)) (x1 : Int32) (σ : g_St) : G X 0 [(0, .ref (g_b X + 0)), (1, .int x1)] [] σ (m_X10_drawTicket x1 σ) := by
  have t0 := g_ag_at hA (c := 0) rfl tc0
  have t16 := g_ag_at hA (c := 16) rfl tc16
  have t22 := g_ag_at hA (c := 22) rfl tc22
  unfold m_X10_drawTicket
  refine G_aload_n C dX10_drawTicket_0 rfl 0 rfl ?_
  refine G_getR C f_X10_drawTicket_37 t0 rfl dX10_drawTicket_1 ?_
  refine G_aload_n C dX10_drawTicket_4 rfl 0 rfl ?_
  refine G_getR C f_X10_drawTicket_30 t0 rfl dX10_drawTicket_5 ?_
  refine G_callV (rest := []) (fun a ha => g_runV C (nargs := 1) (As := [.ref (g_b X + 16)]) (rest := []) gX10_drawTicket_X5_add rfl (by decide +kernel) rfl t22 rfl rfl rfl rfl dX10_drawTicket_8 (k_m_X5_add X.1.2.1 X.2.1 (g_n X) (g_T X) (g_ag_sub hA (by decide +kernel)) σ a ha)) (fun σ1 => ?_)
  refine G_aload_n C dX10_drawTicket_11 rfl 0 rfl ?_
  refine G_getR C f_X10_drawTicket_30 t0 rfl dX10_drawTicket_12 ?_
  refine G_iload_n C dX10_drawTicket_15 rfl 1 rfl ?_
  refine G_callI (rest := []) (fun a ha => g_runV C (nargs := 1) (As := [.int x1]) (rest := []) gX10_drawTicket_X4_whoAges rfl (by decide +kernel) rfl t16 rfl rfl rfl rfl dX10_drawTicket_16 (k_m_X4_whoAges X.1.2.1 X.2.1 (g_n X) (g_T X) (g_ag_sub hA (by decide +kernel)) x1 σ1 a ha)) (fun q2 => ?_)
  refine G_istore_n C dX10_drawTicket_19 rfl rfl (lv' := [(2, .int q2.1), (0, .ref (g_b X + 0)), (1, .int x1)]) rfl ?_
  refine G_aload_n C dX10_drawTicket_20 rfl 1 rfl ?_
  refine G_getR C f_X10_drawTicket_30 t0 rfl dX10_drawTicket_21 ?_
  refine G_iload_n C dX10_drawTicket_24 rfl 0 rfl ?_
  refine G_callV (rest := []) (fun a ha => g_runV C (nargs := 1) (As := [.int q2.1]) (rest := []) gX10_drawTicket_X4_celebrate rfl (by decide +kernel) rfl t16 rfl rfl rfl rfl dX10_drawTicket_25 (k_m_X4_celebrate X.1.2.1 X.2.1 (g_n X) (g_T X) (g_ag_sub hA (by decide +kernel)) q2.1 q2.2 a ha)) (fun σ3 => ?_)
  refine G_aload_n C dX10_drawTicket_28 rfl 1 rfl ?_
  refine G_getR C f_X10_drawTicket_30 t0 rfl dX10_drawTicket_29 ?_
  refine G_aload_n C dX10_drawTicket_32 rfl 1 rfl ?_
  refine G_getR C f_X10_drawTicket_23 t0 rfl dX10_drawTicket_33 ?_
  refine G_iload_n C dX10_drawTicket_36 rfl 2 rfl ?_
  refine G_callV (rest := []) (fun a ha => g_runV C (nargs := 2) (As := [.ref (g_b X + 13), .int x1]) (rest := []) gX10_drawTicket_X4_passDraw rfl (by decide +kernel) rfl t16 rfl rfl rfl rfl dX10_drawTicket_37 (k_m_X4_passDraw X.1.2.1 X.2.1 (g_n X) (g_T X) (g_ag_sub hA (by decide +kernel)) x1 σ3 a ha)) (fun σ4 => ?_)
  refine G_iload_n C dX10_drawTicket_40 rfl 0 rfl ?_
  exact G_iret C q dX10_drawTicket_41
theorem k_m_X10_drawTicket (l : Launch) (E : g_E) (n : Nat) (T : Nat → g_Sh) (hA : g_ag L_m_X10_drawTicket n T) (x1 : Int32) (σ : g_St) (a : Int32 × g_St) (h : m_X10_drawTicket x1 σ = some a) : Met l yX10_drawTicket wsX10_drawTicket rm_m_X10_drawTicket (g_Pc E n T [.ref (E.2.1 + 0), .int x1] σ) (g_Qi E n T a) 0 0 (g_A E) :=
  g_metI (by decide +kernel) rfl rfl (Nat.le_of_ble_eq_true rfl) (fun M Qf C q => by rw [← h]; exact w_m_X10_drawTicket_0 C q hA x1 σ)
def L_m_X10_draw : List Nat := [0, 13, 16, 17, 18, 19, 20, 21, 22, 23, 24, 25, 26, 27, 28, 29, 30, 31, 32, 33, 34, 35, 36, 37, 38, 39, 40, 41, 42, 43, 44, 45, 46, 47, 48, 49, 50, 51, 52, 53]
abbrev rm_m_X10_draw : Room := { frames := 5, cells := 0, slots := 0, locals := 125 }
theorem f_X10_draw_127 : g_Fld wsX10_draw RX10 127 4 6 := ⟨RX4, TX4, 8, rfl, by decide +kernel, by decide, by decide +kernel⟩
theorem f_X10_draw_140 : g_Fld wsX10_draw RX10 140 4 5 := ⟨RX4, TX4, 8, rfl, by decide +kernel, by decide, by decide +kernel⟩
theorem f_X10_draw_30 : g_Fld wsX10_draw RX10 30 10 3 := ⟨RX10, TX10, 15, rfl, by decide +kernel, by decide, by decide +kernel⟩
theorem c_X10_draw_167 : Cond.constant RX10 167 (-1000000001) ∈ wsX10_draw := by decide +kernel
theorem c_X10_draw_206 : Cond.constant RX10 206 (-1000000003) ∈ wsX10_draw := by decide +kernel
theorem c_X10_draw_207 : Cond.constant RX10 207 (90000) ∈ wsX10_draw := by decide +kernel
theorem c_X10_draw_97 : Cond.constant RX10 97 (-1000000004) ∈ wsX10_draw := by decide +kernel
set_option maxHeartbeats 4000000 in
set_option maxRecDepth 100000 in
theorem w_m_X10_draw_0 {X : g_X (Int32 × g_St)} (C : g_C X cX10_draw RX10 wsX10_draw rm_m_X10_draw 2) (q : g_qI X) (hA : g_ag L_m_X10_draw (g_n X) (g_T X)) (x1 : Int32) (σ : g_St) : G X 0 [(0, .ref (g_b X + 0)), (1, .int x1)] [] σ (m_X10_draw x1 σ) := by
  have t0 := g_ag_at hA (c := 0) rfl tc0
  have t16 := g_ag_at hA (c := 16) rfl tc16
  unfold m_X10_draw
  refine G_aload_n C dX10_draw_0 rfl 0 rfl ?_
  refine G_iload_n C dX10_draw_1 rfl 1 rfl ?_
  refine G_callI (rest := []) (fun a ha => g_runV C (nargs := 1) (As := [.int x1]) (rest := []) gX10_draw_X10_isTicket rfl (by decide +kernel) rfl t0 rfl rfl rfl rfl dX10_draw_2 (k_m_X10_isTicket X.1.2.1 X.2.1 (g_n X) (g_T X) (g_ag_sub hA (by decide +kernel)) x1 σ a ha)) (fun q1 => ?_)
  refine G_if_ne C dX10_draw_5 (tgt := 11) (by decide) (fun c2 => ?_) (fun c2 => ?_)
  · refine G_ldc C dX10_draw_8 c_X10_draw_167 ?_
    exact G_iret C q dX10_draw_10
  · refine G_aload_n C dX10_draw_11 rfl 0 rfl ?_
    refine G_getR C f_X10_draw_30 t0 rfl dX10_draw_12 ?_
    refine G_getI C f_X10_draw_140 t16 rfl dX10_draw_15 ?_
    refine G_iload_n C dX10_draw_18 rfl 1 rfl ?_
    refine G_callI (rest := []) (fun a ha => g_runS C (nargs := 2) (As := [.int (q1.2.1 16 5), .int x1]) (rest := []) gX10_draw_X10_holds rfl (by decide +kernel) rfl rfl rfl dX10_draw_19 (k_m_X10_holds X.1.2.1 X.2.1 (g_n X) (g_T X) (g_ag_sub hA (by decide +kernel)) (q1.2.1 16 5) x1 q1.2 a ha)) (fun q3 => ?_)
    refine G_if_ne C dX10_draw_22 (tgt := 28) (by decide) (fun c4 => ?_) (fun c4 => ?_)
    · refine G_ldc C dX10_draw_25 c_X10_draw_206 ?_
      exact G_iret C q dX10_draw_27
    · refine G_aload_n C dX10_draw_28 rfl 0 rfl ?_
      refine G_getR C f_X10_draw_30 t0 rfl dX10_draw_29 ?_
      refine G_getI C f_X10_draw_127 t16 rfl dX10_draw_32 ?_
      refine G_ldc C dX10_draw_35 c_X10_draw_207 ?_
      refine G_icmp_le C dX10_draw_37 (tgt := 43) (by decide) (fun c5 => ?_) (fun c5 => ?_)
      · refine G_aload_n C dX10_draw_43 rfl 0 rfl ?_
        refine G_iload_n C dX10_draw_44 rfl 1 rfl ?_
        refine G_callI (rest := []) (fun a ha => g_runV C (nargs := 1) (As := [.int x1]) (rest := []) gX10_draw_X10_drawTicket rfl (by decide +kernel) rfl t0 rfl rfl rfl rfl dX10_draw_45 (k_m_X10_drawTicket X.1.2.1 X.2.1 (g_n X) (g_T X) (g_ag_sub hA (by decide +kernel)) x1 q3.2 a ha)) (fun q6 => ?_)
        exact G_iret C q dX10_draw_48
      · refine G_ldc C dX10_draw_40 c_X10_draw_97 ?_
        exact G_iret C q dX10_draw_42
theorem k_m_X10_draw (l : Launch) (E : g_E) (n : Nat) (T : Nat → g_Sh) (hA : g_ag L_m_X10_draw n T) (x1 : Int32) (σ : g_St) (a : Int32 × g_St) (h : m_X10_draw x1 σ = some a) : Met l yX10_draw wsX10_draw rm_m_X10_draw (g_Pc E n T [.ref (E.2.1 + 0), .int x1] σ) (g_Qi E n T a) 0 0 (g_A E) :=
  g_metI (by decide +kernel) rfl rfl (Nat.le_of_ble_eq_true rfl) (fun M Qf C q => by rw [← h]; exact w_m_X10_draw_0 C q hA x1 σ)
def L_m_X10_nextSeed : List Nat := []
abbrev rm_m_X10_nextSeed : Room := { frames := 0, cells := 0, slots := 0, locals := 0 }
theorem c_X10_nextSeed_320 : Cond.constantLong RX10 320 (1103515245) ∈ wsX10_nextSeed := by decide +kernel
theorem c_X10_nextSeed_322 : Cond.constantLong RX10 322 (12345) ∈ wsX10_nextSeed := by decide +kernel
theorem c_X10_nextSeed_324 : Cond.constantLong RX10 324 (2147483647) ∈ wsX10_nextSeed := by decide +kernel
set_option maxHeartbeats 4000000 in
set_option maxRecDepth 100000 in
theorem w_m_X10_nextSeed_0 {X : g_X (Int32 × g_St)} (C : g_C X cX10_nextSeed RX10 wsX10_nextSeed rm_m_X10_nextSeed 1) (q : g_qI X) (hA : g_ag L_m_X10_nextSeed (g_n X) (g_T X)) (x0 : Int32) (σ : g_St) : G X 0 [(0, .int x0)] [] σ (m_X10_nextSeed x0 σ) := by
  unfold m_X10_nextSeed
  refine G_iload_n C dX10_nextSeed_0 rfl 0 rfl ?_
  refine G_i2l C dX10_nextSeed_1 ?_
  refine G_ldc2 C dX10_nextSeed_2 c_X10_nextSeed_320 ?_
  refine G_lmul C dX10_nextSeed_5 ?_
  refine G_ldc2 C dX10_nextSeed_6 c_X10_nextSeed_322 ?_
  refine G_ladd C dX10_nextSeed_9 ?_
  refine G_ldc2 C dX10_nextSeed_10 c_X10_nextSeed_324 ?_
  refine G_land C dX10_nextSeed_13 ?_
  refine G_l2i C dX10_nextSeed_14 ?_
  exact G_iret C q dX10_nextSeed_15
theorem k_m_X10_nextSeed (l : Launch) (E : g_E) (n : Nat) (T : Nat → g_Sh) (hA : g_ag L_m_X10_nextSeed n T) (x0 : Int32) (σ : g_St) (a : Int32 × g_St) (h : m_X10_nextSeed x0 σ = some a) : Met l yX10_nextSeed wsX10_nextSeed rm_m_X10_nextSeed (g_Pc E n T [.int x0] σ) (g_Qi E n T a) 0 0 (g_A E) :=
  g_metI (by decide +kernel) rfl rfl (Nat.le_of_ble_eq_true rfl) (fun M Qf C q => by rw [← h]; exact w_m_X10_nextSeed_0 C q hA x0 σ)
def L_m_X10_lotOf : List Nat := []
abbrev rm_m_X10_lotOf : Room := { frames := 0, cells := 0, slots := 0, locals := 0 }
theorem c_X10_lotOf_326 : Cond.constant RX10 326 (65536) ∈ wsX10_lotOf := by decide +kernel
set_option maxHeartbeats 4000000 in
set_option maxRecDepth 100000 in
theorem w_m_X10_lotOf_0 {X : g_X (Int32 × g_St)} (C : g_C X cX10_lotOf RX10 wsX10_lotOf rm_m_X10_lotOf 2) (q : g_qI X) (hA : g_ag L_m_X10_lotOf (g_n X) (g_T X)) (x0 : Int32) (x1 : Int32) (σ : g_St) : G X 0 [(0, .int x0), (1, .int x1)] [] σ (m_X10_lotOf x0 x1 σ) := by
  unfold m_X10_lotOf
  refine G_iload_n C dX10_lotOf_0 rfl 1 rfl ?_
  refine G_iconst C dX10_lotOf_1 (v := 1) (by decide +kernel) ?_
  refine G_icmp_ge C dX10_lotOf_2 (tgt := 9) (by decide) (fun c1 => ?_) (fun c1 => ?_)
  · refine G_iload_n C dX10_lotOf_9 rfl 0 rfl ?_
    refine G_ldcw C dX10_lotOf_10 c_X10_lotOf_326 ?_
    refine G_idiv C dX10_lotOf_13 (by decide) ?_
    refine G_iload_n C dX10_lotOf_14 rfl 1 rfl ?_
    refine G_chn (fun h2 => ?_)
    refine G_irem C dX10_lotOf_15 h2 ?_
    exact G_iret C q dX10_lotOf_16
  · refine G_iconst C dX10_lotOf_5 (v := 0) (by decide +kernel) ?_
    refine G_goto C dX10_lotOf_6 (tgt := 16) (by decide) ?_
    exact G_iret C q dX10_lotOf_16
theorem k_m_X10_lotOf (l : Launch) (E : g_E) (n : Nat) (T : Nat → g_Sh) (hA : g_ag L_m_X10_lotOf n T) (x0 : Int32) (x1 : Int32) (σ : g_St) (a : Int32 × g_St) (h : m_X10_lotOf x0 x1 σ = some a) : Met l yX10_lotOf wsX10_lotOf rm_m_X10_lotOf (g_Pc E n T [.int x0, .int x1] σ) (g_Qi E n T a) 0 0 (g_A E) :=
  g_metI (by decide +kernel) rfl rfl (Nat.le_of_ble_eq_true rfl) (fun M Qf C q => by rw [← h]; exact w_m_X10_lotOf_0 C q hA x0 x1 σ)
def L_m_X10_lots : List Nat := [0, 13, 14, 16, 17, 18, 19, 20, 21, 22, 23, 24, 25, 26, 27, 28, 29, 30, 31, 32, 33, 34, 35, 36, 37, 38, 39, 40, 41, 42, 43, 44, 45, 46, 47, 48, 49, 50, 51, 52, 53]
abbrev rm_m_X10_lots : Room := { frames := 5, cells := 0, slots := 0, locals := 125 }
theorem f_X10_lots_124 : g_Fld wsX10_lots RX10 124 7 3 := ⟨RX7, TX7, 6, rfl, by decide +kernel, by decide, by decide +kernel⟩
theorem f_X10_lots_127 : g_Fld wsX10_lots RX10 127 4 6 := ⟨RX4, TX4, 8, rfl, by decide +kernel, by decide, by decide +kernel⟩
theorem f_X10_lots_140 : g_Fld wsX10_lots RX10 140 4 5 := ⟨RX4, TX4, 8, rfl, by decide +kernel, by decide, by decide +kernel⟩
theorem f_X10_lots_23 : g_Fld wsX10_lots RX10 23 10 2 := ⟨RX10, TX10, 15, rfl, by decide +kernel, by decide, by decide +kernel⟩
theorem f_X10_lots_30 : g_Fld wsX10_lots RX10 30 10 3 := ⟨RX10, TX10, 15, rfl, by decide +kernel, by decide, by decide +kernel⟩
theorem f_X10_lots_93 : g_Fld wsX10_lots RX10 93 10 14 := ⟨RX10, TX10, 15, rfl, by decide +kernel, by decide, by decide +kernel⟩
theorem p_X10_lots_93 : g_FldP wsX10_lots RX10 93 10 14 .int := ⟨RX10, TX10, 15, tyX10, rfl, by decide +kernel, by decide, by decide +kernel, tyX10_ok, nmX10, rfl, by decide +kernel⟩
theorem c_X10_lots_206 : Cond.constant RX10 206 (-1000000003) ∈ wsX10_lots := by decide +kernel
theorem c_X10_lots_207 : Cond.constant RX10 207 (90000) ∈ wsX10_lots := by decide +kernel
theorem c_X10_lots_96 : Cond.constant RX10 96 (-1000000002) ∈ wsX10_lots := by decide +kernel
theorem c_X10_lots_97 : Cond.constant RX10 97 (-1000000004) ∈ wsX10_lots := by decide +kernel
set_option maxHeartbeats 4000000 in
set_option maxRecDepth 100000 in
theorem w_m_X10_lots_46 {X : g_X (Int32 × g_St)} (C : g_C X cX10_lots RX10 wsX10_lots rm_m_X10_lots 4) (q : g_qI X) (hA : g_ag L_m_X10_lots (g_n X) (g_T X)) (N : Nat) : ∀ (fu : Nat) (x1 : Int32) (x2 : Int32) (x3 : Int32) (σ : g_St), G X 46 [(0, .ref (g_b X + 0)), (1, .int x1), (2, .int x2), (3, .int x3)] [] σ (m_X10_lots_46 N fu x1 x2 x3 σ) := by
  have t0 := g_ag_at hA (c := 0) rfl tc0
  have t13 := g_ag_at hA (c := 13) rfl tc13
  have t16 := g_ag_at hA (c := 16) rfl tc16
  intro fu
  induction fu with
  | zero => intro x1 x2 x3 σ; exact G_none
  | succ fu ih =>
    intro x1 x2 x3 σ
    unfold m_X10_lots_46
    refine G_iload_n C dX10_lots_46 rfl 3 rfl ?_
    refine G_iload_n C dX10_lots_47 rfl 1 rfl ?_
    refine G_icmp_ge C dX10_lots_48 (tgt := 110) (by decide) (fun c1 => ?_) (fun c1 => ?_)
    · refine G_iload_n C dX10_lots_110 rfl 2 rfl ?_
      exact G_iret C q dX10_lots_111
    · refine G_aload_n C dX10_lots_51 rfl 0 rfl ?_
      refine G_aload_n C dX10_lots_52 rfl 0 rfl ?_
      refine G_getI C f_X10_lots_93 t0 rfl dX10_lots_53 ?_
      refine G_callI (rest := [.ref (g_b X + 0)]) (fun a ha => g_runS C (nargs := 1) (As := [.int (σ.1 0 14)]) (rest := [.ref (g_b X + 0)]) gX10_lots_X10_nextSeed rfl (by decide +kernel) rfl rfl rfl dX10_lots_56 (k_m_X10_nextSeed X.1.2.1 X.2.1 (g_n X) (g_T X) (g_ag_sub hA (by decide +kernel)) (σ.1 0 14) σ a ha)) (fun q2 => ?_)
      refine G_putI C p_X10_lots_93 t0 rfl rfl rfl dX10_lots_59 ?_
      refine G_lts (fun σ3 => ?_)
      refine G_aload_n C dX10_lots_62 rfl 0 rfl ?_
      refine G_getR C f_X10_lots_23 t0 rfl dX10_lots_63 ?_
      refine G_aload_n C dX10_lots_66 rfl 0 rfl ?_
      refine G_getR C f_X10_lots_30 t0 rfl dX10_lots_67 ?_
      refine G_getI C f_X10_lots_140 t16 rfl dX10_lots_70 ?_
      refine G_aload_n C dX10_lots_73 rfl 0 rfl ?_
      refine G_getI C f_X10_lots_93 t0 rfl dX10_lots_74 ?_
      refine G_aload_n C dX10_lots_77 rfl 0 rfl ?_
      refine G_getR C f_X10_lots_23 t0 rfl dX10_lots_78 ?_
      refine G_aload_n C dX10_lots_81 rfl 0 rfl ?_
      refine G_getR C f_X10_lots_30 t0 rfl dX10_lots_82 ?_
      refine G_getI C f_X10_lots_140 t16 rfl dX10_lots_85 ?_
      refine G_callI (rest := [.int (σ3.1 0 14), .int (σ3.1 16 5), .ref (g_b X + 13)]) (fun a ha => g_runV C (nargs := 1) (As := [.int (σ3.1 16 5)]) (rest := [.int (σ3.1 0 14), .int (σ3.1 16 5), .ref (g_b X + 13)]) gX10_lots_X7_weightOf rfl (by decide +kernel) rfl t13 rfl rfl rfl rfl dX10_lots_88 (k_m_X7_weightOf X.1.2.1 X.2.1 (g_n X) (g_T X) (g_ag_sub hA (by decide +kernel)) N (σ3.1 16 5) σ3 a ha)) (fun q4 => ?_)
      refine G_callI (rest := [.int (σ3.1 16 5), .ref (g_b X + 13)]) (fun a ha => g_runS C (nargs := 2) (As := [.int (σ3.1 0 14), .int q4.1]) (rest := [.int (σ3.1 16 5), .ref (g_b X + 13)]) gX10_lots_X10_lotOf rfl (by decide +kernel) rfl rfl rfl dX10_lots_91 (k_m_X10_lotOf X.1.2.1 X.2.1 (g_n X) (g_T X) (g_ag_sub hA (by decide +kernel)) (σ3.1 0 14) q4.1 q4.2 a ha)) (fun q5 => ?_)
      refine G_callI (rest := []) (fun a ha => g_runV C (nargs := 2) (As := [.int (σ3.1 16 5), .int q5.1]) (rest := []) gX10_lots_X7_ticketAt rfl (by decide +kernel) rfl t13 rfl rfl rfl rfl dX10_lots_94 (k_m_X7_ticketAt X.1.2.1 X.2.1 (g_n X) (g_T X) (g_ag_sub hA (by decide +kernel)) N (σ3.1 16 5) q5.1 q5.2 a ha)) (fun q6 => ?_)
      refine G_istore_n C dX10_lots_97 rfl rfl (lv' := [(2, .int q6.1), (0, .ref (g_b X + 0)), (1, .int x1), (3, .int x3)]) rfl ?_
      refine G_aload_n C dX10_lots_98 rfl 1 rfl ?_
      refine G_iload_n C dX10_lots_99 rfl 0 rfl ?_
      refine G_callI (rest := []) (fun a ha => g_runV C (nargs := 1) (As := [.int q6.1]) (rest := []) gX10_lots_X10_drawTicket rfl (by decide +kernel) rfl t0 rfl rfl rfl rfl dX10_lots_100 (k_m_X10_drawTicket X.1.2.1 X.2.1 (g_n X) (g_T X) (g_ag_sub hA (by decide +kernel)) q6.1 q6.2 a ha)) (fun q7 => ?_)
      refine G_pop C dX10_lots_103 rfl ?_
      refine G_iinc C dX10_lots_104 3 rfl (v := (x3 + (1 : Int32))) (by rfl) rfl (lv' := [(3, .int (x3 + (1 : Int32))), (2, .int q6.1), (0, .ref (g_b X + 0)), (1, .int x1)]) rfl ?_
      refine G_ltv (fun v => [(3, .int v), (2, .int q6.1), (0, .ref (g_b X + 0)), (1, .int x1)]) (fun v8 => ?_)
      refine G_goto C dX10_lots_107 (tgt := 46) (by decide) ?_
      exact G_sub (ih x1 q6.1 v8 q7.2) [2, 3, 1, 0] rfl
set_option maxHeartbeats 4000000 in
set_option maxRecDepth 100000 in
theorem w_m_X10_lots_0 {X : g_X (Int32 × g_St)} (C : g_C X cX10_lots RX10 wsX10_lots rm_m_X10_lots 4) (q : g_qI X) (hA : g_ag L_m_X10_lots (g_n X) (g_T X)) (N : Nat) (x1 : Int32) (σ : g_St) : G X 0 [(0, .ref (g_b X + 0)), (1, .int x1)] [] σ (m_X10_lots N x1 σ) := by
  have t0 := g_ag_at hA (c := 0) rfl tc0
  have t13 := g_ag_at hA (c := 13) rfl tc13
  have t16 := g_ag_at hA (c := 16) rfl tc16
  unfold m_X10_lots
  refine G_iload_n C dX10_lots_0 rfl 1 rfl ?_
  refine G_iconst C dX10_lots_1 (v := 1) (by decide +kernel) ?_
  refine G_icmp_lt C dX10_lots_2 (tgt := 11) (by decide) (fun c1 => ?_) (fun c1 => ?_)
  · refine G_ldc C dX10_lots_11 c_X10_lots_96 ?_
    exact G_iret C q dX10_lots_13
  · refine G_iload_n C dX10_lots_5 rfl 1 rfl ?_
    refine G_bipush C dX10_lots_6 (v := 99) (by decide +kernel) ?_
    refine G_icmp_le C dX10_lots_8 (tgt := 14) (by decide) (fun c2 => ?_) (fun c2 => ?_)
    · refine G_aload_n C dX10_lots_14 rfl 0 rfl ?_
      refine G_getR C f_X10_lots_23 t0 rfl dX10_lots_15 ?_
      refine G_getI C f_X10_lots_124 t13 rfl dX10_lots_18 ?_
      refine G_if_ne C dX10_lots_21 (tgt := 27) (by decide) (fun c3 => ?_) (fun c3 => ?_)
      · refine G_ldc C dX10_lots_24 c_X10_lots_206 ?_
        exact G_iret C q dX10_lots_26
      · refine G_aload_n C dX10_lots_27 rfl 0 rfl ?_
        refine G_getR C f_X10_lots_30 t0 rfl dX10_lots_28 ?_
        refine G_getI C f_X10_lots_127 t16 rfl dX10_lots_31 ?_
        refine G_ldc C dX10_lots_34 c_X10_lots_207 ?_
        refine G_icmp_le C dX10_lots_36 (tgt := 42) (by decide) (fun c4 => ?_) (fun c4 => ?_)
        · refine G_iconst C dX10_lots_42 (v := -1) (by decide +kernel) ?_
          refine G_istore_n C dX10_lots_43 rfl rfl (lv' := [(2, .int (-1 : Int32)), (0, .ref (g_b X + 0)), (1, .int x1)]) rfl ?_
          refine G_iconst C dX10_lots_44 (v := 0) (by decide +kernel) ?_
          refine G_istore_n C dX10_lots_45 rfl rfl (lv' := [(3, .int (0 : Int32)), (2, .int (-1 : Int32)), (0, .ref (g_b X + 0)), (1, .int x1)]) rfl ?_
          exact G_sub (w_m_X10_lots_46 C q hA N N x1 (-1 : Int32) (0 : Int32) σ) [2, 3, 1, 0] rfl
        · refine G_ldc C dX10_lots_39 c_X10_lots_97 ?_
          exact G_iret C q dX10_lots_41
    · refine G_ldc C dX10_lots_11 c_X10_lots_96 ?_
      exact G_iret C q dX10_lots_13
theorem k_m_X10_lots (l : Launch) (E : g_E) (n : Nat) (T : Nat → g_Sh) (hA : g_ag L_m_X10_lots n T) (N : Nat) (x1 : Int32) (σ : g_St) (a : Int32 × g_St) (h : m_X10_lots N x1 σ = some a) : Met l yX10_lots wsX10_lots rm_m_X10_lots (g_Pc E n T [.ref (E.2.1 + 0), .int x1] σ) (g_Qi E n T a) 0 0 (g_A E) :=
  g_metI (by decide +kernel) rfl rfl (Nat.le_of_ble_eq_true rfl) (fun M Qf C q => by rw [← h]; exact w_m_X10_lots_0 C q hA N x1 σ)
def L_m_X10_sell : List Nat := [0, 13, 16, 18, 19, 20, 21]
abbrev rm_m_X10_sell : Room := { frames := 1, cells := 0, slots := 0, locals := 30 }
theorem f_X10_sell_168 : g_Fld wsX10_sell RX10 168 4 1 := ⟨RX4, TX4, 8, rfl, by decide +kernel, by decide, by decide +kernel⟩
theorem f_X10_sell_184 : g_Fld wsX10_sell RX10 184 4 2 := ⟨RX4, TX4, 8, rfl, by decide +kernel, by decide, by decide +kernel⟩
theorem f_X10_sell_190 : g_Fld wsX10_sell RX10 190 4 4 := ⟨RX4, TX4, 8, rfl, by decide +kernel, by decide, by decide +kernel⟩
theorem f_X10_sell_193 : g_Fld wsX10_sell RX10 193 4 3 := ⟨RX4, TX4, 8, rfl, by decide +kernel, by decide, by decide +kernel⟩
theorem f_X10_sell_30 : g_Fld wsX10_sell RX10 30 10 3 := ⟨RX10, TX10, 15, rfl, by decide +kernel, by decide, by decide +kernel⟩
theorem c_X10_sell_167 : Cond.constant RX10 167 (-1000000001) ∈ wsX10_sell := by decide +kernel
theorem c_X10_sell_206 : Cond.constant RX10 206 (-1000000003) ∈ wsX10_sell := by decide +kernel
theorem w_X10_sell_220 : g_mw wsX10_sell RX10 220 Lib.Math.min.name Lib.Math.min.code 2 := ⟨by decide +kernel, by decide +kernel, by decide +kernel, by decide +kernel⟩
set_option maxHeartbeats 4000000 in
set_option maxRecDepth 100000 in
theorem w_m_X10_sell_124 {X : g_X (Int32 × g_St)} (C : g_C X cX10_sell RX10 wsX10_sell rm_m_X10_sell 5) (q : g_qI X) (hA : g_ag L_m_X10_sell (g_n X) (g_T X)) (x1 : Int32) (x2 : Int32) (σ : g_St) : G X 124 [(0, .ref (g_b X + 0)), (1, .int x1), (2, .int x2)] [] σ (m_X10_sell_124 x1 x2 σ) := by
  have t0 := g_ag_at hA (c := 0) rfl tc0
  have t16 := g_ag_at hA (c := 16) rfl tc16
  have t18 := g_ag_at hA (c := 18) rfl tc18
  have t19 := g_ag_at hA (c := 19) rfl tc19
  unfold m_X10_sell_124
  refine G_aload_n C dX10_sell_124 rfl 0 rfl ?_
  refine G_getR C f_X10_sell_30 t0 rfl dX10_sell_125 ?_
  refine G_getR C f_X10_sell_184 t16 rfl dX10_sell_128 ?_
  refine G_iload_n C dX10_sell_131 rfl 1 rfl ?_
  refine G_iload_n C dX10_sell_132 rfl 2 rfl ?_
  refine G_chk (fun h1 => ?_)
  refine G_ast C t19 h1 dX10_sell_133 ?_
  refine G_lts (fun σ2 => ?_)
  refine G_aload_n C dX10_sell_134 rfl 0 rfl ?_
  refine G_getR C f_X10_sell_30 t0 rfl dX10_sell_135 ?_
  refine G_getR C f_X10_sell_168 t16 rfl dX10_sell_138 ?_
  refine G_iload_n C dX10_sell_141 rfl 2 rfl ?_
  refine G_chk (fun h3 => ?_)
  refine G_ald C t18 h3 dX10_sell_142 ?_
  exact G_iret C q dX10_sell_143
set_option maxHeartbeats 4000000 in
set_option maxRecDepth 100000 in
theorem w_m_X10_sell_0 {X : g_X (Int32 × g_St)} (C : g_C X cX10_sell RX10 wsX10_sell rm_m_X10_sell 5) (q : g_qI X) (hA : g_ag L_m_X10_sell (g_n X) (g_T X)) (x1 : Int32) (x2 : Int32) (σ : g_St) : G X 0 [(0, .ref (g_b X + 0)), (1, .int x1), (2, .int x2)] [] σ (m_X10_sell x1 x2 σ) := by
  have t0 := g_ag_at hA (c := 0) rfl tc0
  have t16 := g_ag_at hA (c := 16) rfl tc16
  have t18 := g_ag_at hA (c := 18) rfl tc18
  have t19 := g_ag_at hA (c := 19) rfl tc19
  have t20 := g_ag_at hA (c := 20) rfl tc20
  have t21 := g_ag_at hA (c := 21) rfl tc21
  unfold m_X10_sell
  refine G_aload_n C dX10_sell_0 rfl 0 rfl ?_
  refine G_iload_n C dX10_sell_1 rfl 1 rfl ?_
  refine G_callI (rest := []) (fun a ha => g_runV C (nargs := 1) (As := [.int x1]) (rest := []) gX10_sell_X10_isTicket rfl (by decide +kernel) rfl t0 rfl rfl rfl rfl dX10_sell_2 (k_m_X10_isTicket X.1.2.1 X.2.1 (g_n X) (g_T X) (g_ag_sub hA (by decide +kernel)) x1 σ a ha)) (fun q1 => ?_)
  refine G_if_eq C dX10_sell_5 (tgt := 16) (by decide) (fun c2 => ?_) (fun c2 => ?_)
  · refine G_ldc C dX10_sell_16 c_X10_sell_167 ?_
    exact G_iret C q dX10_sell_18
  · refine G_aload_n C dX10_sell_8 rfl 0 rfl ?_
    refine G_iload_n C dX10_sell_9 rfl 2 rfl ?_
    refine G_callI (rest := []) (fun a ha => g_runV C (nargs := 1) (As := [.int x2]) (rest := []) gX10_sell_X10_isPerson rfl (by decide +kernel) rfl t0 rfl rfl rfl rfl dX10_sell_10 (k_m_X10_isPerson X.1.2.1 X.2.1 (g_n X) (g_T X) (g_ag_sub hA (by decide +kernel)) x2 q1.2 a ha)) (fun q3 => ?_)
    refine G_if_ne C dX10_sell_13 (tgt := 19) (by decide) (fun c4 => ?_) (fun c4 => ?_)
    · refine G_ldc C dX10_sell_16 c_X10_sell_167 ?_
      exact G_iret C q dX10_sell_18
    · refine G_aload_n C dX10_sell_19 rfl 0 rfl ?_
      refine G_getR C f_X10_sell_30 t0 rfl dX10_sell_20 ?_
      refine G_getR C f_X10_sell_184 t16 rfl dX10_sell_23 ?_
      refine G_iload_n C dX10_sell_26 rfl 1 rfl ?_
      refine G_chk (fun h5 => ?_)
      refine G_ald C t19 h5 dX10_sell_27 ?_
      refine G_lti (fun v6 => ?_)
      refine G_istore_n C dX10_sell_28 rfl rfl (lv' := [(3, .int v6), (0, .ref (g_b X + 0)), (1, .int x1), (2, .int x2)]) rfl ?_
      refine G_aload_n C dX10_sell_29 rfl 1 rfl ?_
      refine G_getR C f_X10_sell_30 t0 rfl dX10_sell_30 ?_
      refine G_getR C f_X10_sell_190 t16 rfl dX10_sell_33 ?_
      refine G_iload_n C dX10_sell_36 rfl 2 rfl ?_
      refine G_chk (fun h7 => ?_)
      refine G_ald C t21 h7 dX10_sell_37 ?_
      refine G_lti (fun v8 => ?_)
      refine G_istore C dX10_sell_38 rfl (lv' := [(4, .int v8), (3, .int v6), (0, .ref (g_b X + 0)), (1, .int x1), (2, .int x2)]) rfl ?_
      refine G_iload_n C dX10_sell_40 rfl 1 rfl ?_
      refine G_iload_n C dX10_sell_41 rfl 4 rfl ?_
      refine G_icmp_eq C dX10_sell_42 (tgt := 72) (by decide) (fun c9 => ?_) (fun c9 => ?_)
      · refine G_ldc C dX10_sell_72 c_X10_sell_206 ?_
        exact G_iret C q dX10_sell_74
      · refine G_aload_n C dX10_sell_45 rfl 2 rfl ?_
        refine G_getR C f_X10_sell_30 t0 rfl dX10_sell_46 ?_
        refine G_getR C f_X10_sell_193 t16 rfl dX10_sell_49 ?_
        refine G_iload_n C dX10_sell_52 rfl 3 rfl ?_
        refine G_chk (fun h10 => ?_)
        refine G_ald C t20 h10 dX10_sell_53 ?_
        refine G_iconst C dX10_sell_54 (v := -1) (by decide +kernel) ?_
        refine G_icmp_ne C dX10_sell_55 (tgt := 72) (by decide) (fun c11 => ?_) (fun c11 => ?_)
        · refine G_aload_n C dX10_sell_58 rfl 2 rfl ?_
          refine G_getR C f_X10_sell_30 t0 rfl dX10_sell_59 ?_
          refine G_getR C f_X10_sell_168 t16 rfl dX10_sell_62 ?_
          refine G_iload_n C dX10_sell_65 rfl 4 rfl ?_
          refine G_chk (fun h12 => ?_)
          refine G_ald C t18 h12 dX10_sell_66 ?_
          refine G_iload C dX10_sell_67 0 rfl ?_
          refine G_icmp_ge C dX10_sell_69 (tgt := 75) (by decide) (fun c13 => ?_) (fun c13 => ?_)
          · refine G_aload_n C dX10_sell_75 rfl 2 rfl ?_
            refine G_getR C f_X10_sell_30 t0 rfl dX10_sell_76 ?_
            refine G_getR C f_X10_sell_168 t16 rfl dX10_sell_79 ?_
            refine G_iload_n C dX10_sell_82 rfl 4 rfl ?_
            refine G_dup2 C dX10_sell_83 rfl rfl ?_
            refine G_chk (fun h14 => ?_)
            refine G_ald C t18 h14 dX10_sell_84 ?_
            refine G_iload C dX10_sell_85 0 rfl ?_
            refine G_isub C dX10_sell_87 ?_
            refine G_chk (fun h15 => ?_)
            refine G_ast C t18 h15 dX10_sell_88 ?_
            refine G_lts (fun σ16 => ?_)
            refine G_aload_n C dX10_sell_89 rfl 2 rfl ?_
            refine G_iload_n C dX10_sell_90 rfl 1 rfl ?_
            refine G_callI (rest := []) (fun a ha => g_runV C (nargs := 1) (As := [.int v6]) (rest := []) gX10_sell_X10_isPerson rfl (by decide +kernel) rfl t0 rfl rfl rfl rfl dX10_sell_91 (k_m_X10_isPerson X.1.2.1 X.2.1 (g_n X) (g_T X) (g_ag_sub hA (by decide +kernel)) v6 σ16 a ha)) (fun q17 => ?_)
            refine G_if_eq C dX10_sell_94 (tgt := 124) (by decide) (fun c18 => ?_) (fun c18 => ?_)
            · exact G_sub (w_m_X10_sell_124 C q hA x1 x2 q17.2) [2, 3, 4] rfl
            · refine G_aload_n C dX10_sell_97 rfl 2 rfl ?_
              refine G_getR C f_X10_sell_30 t0 rfl dX10_sell_98 ?_
              refine G_getR C f_X10_sell_168 t16 rfl dX10_sell_101 ?_
              refine G_iload_n C dX10_sell_104 rfl 1 rfl ?_
              refine G_sipush C dX10_sell_105 (v := 9999) (by decide +kernel) ?_
              refine G_aload_n C dX10_sell_108 rfl 2 rfl ?_
              refine G_getR C f_X10_sell_30 t0 rfl dX10_sell_109 ?_
              refine G_getR C f_X10_sell_168 t16 rfl dX10_sell_112 ?_
              refine G_iload_n C dX10_sell_115 rfl 1 rfl ?_
              refine G_chk (fun h19 => ?_)
              refine G_ald C t18 h19 dX10_sell_116 ?_
              refine G_iload C dX10_sell_117 0 rfl ?_
              refine G_iadd C dX10_sell_119 ?_
              refine G_mmin C w_X10_sell_220 rfl dX10_sell_120 ?_
              refine G_chk (fun h20 => ?_)
              refine G_ast C t18 h20 dX10_sell_123 ?_
              refine G_lts (fun σ21 => ?_)
              exact G_sub (w_m_X10_sell_124 C q hA x1 x2 σ21) [2, 3, 4] rfl
          · refine G_ldc C dX10_sell_72 c_X10_sell_206 ?_
            exact G_iret C q dX10_sell_74
        · refine G_ldc C dX10_sell_72 c_X10_sell_206 ?_
          exact G_iret C q dX10_sell_74
theorem k_m_X10_sell (l : Launch) (E : g_E) (n : Nat) (T : Nat → g_Sh) (hA : g_ag L_m_X10_sell n T) (x1 : Int32) (x2 : Int32) (σ : g_St) (a : Int32 × g_St) (h : m_X10_sell x1 x2 σ = some a) : Met l yX10_sell wsX10_sell rm_m_X10_sell (g_Pc E n T [.ref (E.2.1 + 0), .int x1, .int x2] σ) (g_Qi E n T a) 0 0 (g_A E) :=
  g_metI (by decide +kernel) rfl rfl (Nat.le_of_ble_eq_true rfl) (fun M Qf C q => by rw [← h]; exact w_m_X10_sell_0 C q hA x1 x2 σ)
def L_m_X10_isPersonOrNone : List Nat := [0, 13]
abbrev rm_m_X10_isPersonOrNone : Room := { frames := 1, cells := 0, slots := 0, locals := 21 }
set_option maxHeartbeats 4000000 in
set_option maxRecDepth 100000 in
theorem w_m_X10_isPersonOrNone_13 {X : g_X (Int32 × g_St)} (C : g_C X cX10_isPersonOrNone RX10 wsX10_isPersonOrNone rm_m_X10_isPersonOrNone 2) (q : g_qZ X) (hA : g_ag L_m_X10_isPersonOrNone (g_n X) (g_T X)) (σ : g_St) : G X 13 [] [] σ (m_X10_isPersonOrNone_13 σ) := by
  unfold m_X10_isPersonOrNone_13
  refine G_iconst C dX10_isPersonOrNone_13 (v := 1) (by decide +kernel) ?_
  refine G_goto C dX10_isPersonOrNone_14 (tgt := 18) (by decide) ?_
  exact G_zret C q (by decide) dX10_isPersonOrNone_18
set_option maxHeartbeats 4000000 in
set_option maxRecDepth 100000 in
theorem w_m_X10_isPersonOrNone_0 {X : g_X (Int32 × g_St)} (C : g_C X cX10_isPersonOrNone RX10 wsX10_isPersonOrNone rm_m_X10_isPersonOrNone 2) (q : g_qZ X) (hA : g_ag L_m_X10_isPersonOrNone (g_n X) (g_T X)) (x1 : Int32) (σ : g_St) : G X 0 [(0, .ref (g_b X + 0)), (1, .int x1)] [] σ (m_X10_isPersonOrNone x1 σ) := by
  have t0 := g_ag_at hA (c := 0) rfl tc0
  unfold m_X10_isPersonOrNone
  refine G_iload_n C dX10_isPersonOrNone_0 rfl 1 rfl ?_
  refine G_iconst C dX10_isPersonOrNone_1 (v := -1) (by decide +kernel) ?_
  refine G_icmp_eq C dX10_isPersonOrNone_2 (tgt := 13) (by decide) (fun c1 => ?_) (fun c1 => ?_)
  · exact G_sub (w_m_X10_isPersonOrNone_13 C q hA σ) [] rfl
  · refine G_aload_n C dX10_isPersonOrNone_5 rfl 0 rfl ?_
    refine G_iload_n C dX10_isPersonOrNone_6 rfl 1 rfl ?_
    refine G_callI (rest := []) (fun a ha => g_runV C (nargs := 1) (As := [.int x1]) (rest := []) gX10_isPersonOrNone_X10_isPerson rfl (by decide +kernel) rfl t0 rfl rfl rfl rfl dX10_isPersonOrNone_7 (k_m_X10_isPerson X.1.2.1 X.2.1 (g_n X) (g_T X) (g_ag_sub hA (by decide +kernel)) x1 σ a ha)) (fun q2 => ?_)
    refine G_if_eq C dX10_isPersonOrNone_10 (tgt := 17) (by decide) (fun c3 => ?_) (fun c3 => ?_)
    · refine G_iconst C dX10_isPersonOrNone_17 (v := 0) (by decide +kernel) ?_
      exact G_zret C q (by decide) dX10_isPersonOrNone_18
    · exact G_sub (w_m_X10_isPersonOrNone_13 C q hA q2.2) [] rfl
theorem k_m_X10_isPersonOrNone (l : Launch) (E : g_E) (n : Nat) (T : Nat → g_Sh) (hA : g_ag L_m_X10_isPersonOrNone n T) (x1 : Int32) (σ : g_St) (a : Int32 × g_St) (h : m_X10_isPersonOrNone x1 σ = some a) : Met l yX10_isPersonOrNone wsX10_isPersonOrNone rm_m_X10_isPersonOrNone (g_Pc E n T [.ref (E.2.1 + 0), .int x1] σ) (g_Qi E n T a) 0 0 (g_A E) :=
  g_metZ (by decide +kernel) rfl rfl (Nat.le_of_ble_eq_true rfl) (fun M Qf C q => by rw [← h]; exact w_m_X10_isPersonOrNone_0 C q hA x1 σ)
def L_m_X10_pawn : List Nat := [0, 13, 16, 20]
abbrev rm_m_X10_pawn : Room := { frames := 2, cells := 0, slots := 0, locals := 42 }
theorem f_X10_pawn_193 : g_Fld wsX10_pawn RX10 193 4 3 := ⟨RX4, TX4, 8, rfl, by decide +kernel, by decide, by decide +kernel⟩
theorem f_X10_pawn_30 : g_Fld wsX10_pawn RX10 30 10 3 := ⟨RX10, TX10, 15, rfl, by decide +kernel, by decide, by decide +kernel⟩
theorem c_X10_pawn_167 : Cond.constant RX10 167 (-1000000001) ∈ wsX10_pawn := by decide +kernel
set_option maxHeartbeats 4000000 in
set_option maxRecDepth 100000 in
theorem w_m_X10_pawn_0 {X : g_X (Int32 × g_St)} (C : g_C X cX10_pawn RX10 wsX10_pawn rm_m_X10_pawn 4) (q : g_qI X) (hA : g_ag L_m_X10_pawn (g_n X) (g_T X)) (x1 : Int32) (x2 : Int32) (σ : g_St) : G X 0 [(0, .ref (g_b X + 0)), (1, .int x1), (2, .int x2)] [] σ (m_X10_pawn x1 x2 σ) := by
  have t0 := g_ag_at hA (c := 0) rfl tc0
  have t16 := g_ag_at hA (c := 16) rfl tc16
  have t20 := g_ag_at hA (c := 20) rfl tc20
  unfold m_X10_pawn
  refine G_aload_n C dX10_pawn_0 rfl 0 rfl ?_
  refine G_iload_n C dX10_pawn_1 rfl 1 rfl ?_
  refine G_callI (rest := []) (fun a ha => g_runV C (nargs := 1) (As := [.int x1]) (rest := []) gX10_pawn_X10_isTicket rfl (by decide +kernel) rfl t0 rfl rfl rfl rfl dX10_pawn_2 (k_m_X10_isTicket X.1.2.1 X.2.1 (g_n X) (g_T X) (g_ag_sub hA (by decide +kernel)) x1 σ a ha)) (fun q1 => ?_)
  refine G_if_eq C dX10_pawn_5 (tgt := 16) (by decide) (fun c2 => ?_) (fun c2 => ?_)
  · refine G_ldc C dX10_pawn_16 c_X10_pawn_167 ?_
    exact G_iret C q dX10_pawn_18
  · refine G_aload_n C dX10_pawn_8 rfl 0 rfl ?_
    refine G_iload_n C dX10_pawn_9 rfl 2 rfl ?_
    refine G_callI (rest := []) (fun a ha => g_runV C (nargs := 1) (As := [.int x2]) (rest := []) gX10_pawn_X10_isPersonOrNone rfl (by decide +kernel) rfl t0 rfl rfl rfl rfl dX10_pawn_10 (k_m_X10_isPersonOrNone X.1.2.1 X.2.1 (g_n X) (g_T X) (g_ag_sub hA (by decide +kernel)) x2 q1.2 a ha)) (fun q3 => ?_)
    refine G_if_ne C dX10_pawn_13 (tgt := 19) (by decide) (fun c4 => ?_) (fun c4 => ?_)
    · refine G_ldc C dX10_pawn_16 c_X10_pawn_167 ?_
      exact G_iret C q dX10_pawn_18
    · refine G_aload_n C dX10_pawn_19 rfl 0 rfl ?_
      refine G_getR C f_X10_pawn_30 t0 rfl dX10_pawn_20 ?_
      refine G_getR C f_X10_pawn_193 t16 rfl dX10_pawn_23 ?_
      refine G_iload_n C dX10_pawn_26 rfl 1 rfl ?_
      refine G_chk (fun h5 => ?_)
      refine G_ald C t20 h5 dX10_pawn_27 ?_
      refine G_lti (fun v6 => ?_)
      refine G_istore_n C dX10_pawn_28 rfl rfl (lv' := [(3, .int v6), (0, .ref (g_b X + 0)), (1, .int x1), (2, .int x2)]) rfl ?_
      refine G_aload_n C dX10_pawn_29 rfl 1 rfl ?_
      refine G_getR C f_X10_pawn_30 t0 rfl dX10_pawn_30 ?_
      refine G_getR C f_X10_pawn_193 t16 rfl dX10_pawn_33 ?_
      refine G_iload_n C dX10_pawn_36 rfl 2 rfl ?_
      refine G_iload_n C dX10_pawn_37 rfl 3 rfl ?_
      refine G_chk (fun h7 => ?_)
      refine G_ast C t20 h7 dX10_pawn_38 ?_
      refine G_lts (fun σ8 => ?_)
      refine G_iload_n C dX10_pawn_39 rfl 0 rfl ?_
      exact G_iret C q dX10_pawn_40
theorem k_m_X10_pawn (l : Launch) (E : g_E) (n : Nat) (T : Nat → g_Sh) (hA : g_ag L_m_X10_pawn n T) (x1 : Int32) (x2 : Int32) (σ : g_St) (a : Int32 × g_St) (h : m_X10_pawn x1 x2 σ = some a) : Met l yX10_pawn wsX10_pawn rm_m_X10_pawn (g_Pc E n T [.ref (E.2.1 + 0), .int x1, .int x2] σ) (g_Qi E n T a) 0 0 (g_A E) :=
  g_metI (by decide +kernel) rfl rfl (Nat.le_of_ble_eq_true rfl) (fun M Qf C q => by rw [← h]; exact w_m_X10_pawn_0 C q hA x1 x2 σ)
def L_m_X10_price : List Nat := [0, 13, 16, 21]
abbrev rm_m_X10_price : Room := { frames := 1, cells := 0, slots := 0, locals := 21 }
theorem f_X10_price_190 : g_Fld wsX10_price RX10 190 4 4 := ⟨RX4, TX4, 8, rfl, by decide +kernel, by decide, by decide +kernel⟩
theorem f_X10_price_30 : g_Fld wsX10_price RX10 30 10 3 := ⟨RX10, TX10, 15, rfl, by decide +kernel, by decide, by decide +kernel⟩
theorem c_X10_price_167 : Cond.constant RX10 167 (-1000000001) ∈ wsX10_price := by decide +kernel
theorem c_X10_price_96 : Cond.constant RX10 96 (-1000000002) ∈ wsX10_price := by decide +kernel
set_option maxHeartbeats 4000000 in
set_option maxRecDepth 100000 in
theorem w_m_X10_price_0 {X : g_X (Int32 × g_St)} (C : g_C X cX10_price RX10 wsX10_price rm_m_X10_price 4) (q : g_qI X) (hA : g_ag L_m_X10_price (g_n X) (g_T X)) (x1 : Int32) (x2 : Int32) (σ : g_St) : G X 0 [(0, .ref (g_b X + 0)), (1, .int x1), (2, .int x2)] [] σ (m_X10_price x1 x2 σ) := by
  have t0 := g_ag_at hA (c := 0) rfl tc0
  have t16 := g_ag_at hA (c := 16) rfl tc16
  have t21 := g_ag_at hA (c := 21) rfl tc21
  unfold m_X10_price
  refine G_aload_n C dX10_price_0 rfl 0 rfl ?_
  refine G_iload_n C dX10_price_1 rfl 1 rfl ?_
  refine G_callI (rest := []) (fun a ha => g_runV C (nargs := 1) (As := [.int x1]) (rest := []) gX10_price_X10_isTicket rfl (by decide +kernel) rfl t0 rfl rfl rfl rfl dX10_price_2 (k_m_X10_isTicket X.1.2.1 X.2.1 (g_n X) (g_T X) (g_ag_sub hA (by decide +kernel)) x1 σ a ha)) (fun q1 => ?_)
  refine G_if_ne C dX10_price_5 (tgt := 11) (by decide) (fun c2 => ?_) (fun c2 => ?_)
  · refine G_ldc C dX10_price_8 c_X10_price_167 ?_
    exact G_iret C q dX10_price_10
  · refine G_iload_n C dX10_price_11 rfl 2 rfl ?_
    refine G_if_lt C dX10_price_12 (tgt := 21) (by decide) (fun c3 => ?_) (fun c3 => ?_)
    · refine G_ldc C dX10_price_21 c_X10_price_96 ?_
      exact G_iret C q dX10_price_23
    · refine G_iload_n C dX10_price_15 rfl 2 rfl ?_
      refine G_bipush C dX10_price_16 (v := 99) (by decide +kernel) ?_
      refine G_icmp_le C dX10_price_18 (tgt := 24) (by decide) (fun c4 => ?_) (fun c4 => ?_)
      · refine G_aload_n C dX10_price_24 rfl 0 rfl ?_
        refine G_getR C f_X10_price_30 t0 rfl dX10_price_25 ?_
        refine G_getR C f_X10_price_190 t16 rfl dX10_price_28 ?_
        refine G_iload_n C dX10_price_31 rfl 1 rfl ?_
        refine G_chk (fun h5 => ?_)
        refine G_ald C t21 h5 dX10_price_32 ?_
        refine G_lti (fun v6 => ?_)
        refine G_istore_n C dX10_price_33 rfl rfl (lv' := [(3, .int v6), (0, .ref (g_b X + 0)), (1, .int x1), (2, .int x2)]) rfl ?_
        refine G_aload_n C dX10_price_34 rfl 1 rfl ?_
        refine G_getR C f_X10_price_30 t0 rfl dX10_price_35 ?_
        refine G_getR C f_X10_price_190 t16 rfl dX10_price_38 ?_
        refine G_iload_n C dX10_price_41 rfl 2 rfl ?_
        refine G_iload_n C dX10_price_42 rfl 3 rfl ?_
        refine G_chk (fun h7 => ?_)
        refine G_ast C t21 h7 dX10_price_43 ?_
        refine G_lts (fun σ8 => ?_)
        refine G_iload_n C dX10_price_44 rfl 0 rfl ?_
        exact G_iret C q dX10_price_45
      · refine G_ldc C dX10_price_21 c_X10_price_96 ?_
        exact G_iret C q dX10_price_23
theorem k_m_X10_price (l : Launch) (E : g_E) (n : Nat) (T : Nat → g_Sh) (hA : g_ag L_m_X10_price n T) (x1 : Int32) (x2 : Int32) (σ : g_St) (a : Int32 × g_St) (h : m_X10_price x1 x2 σ = some a) : Met l yX10_price wsX10_price rm_m_X10_price (g_Pc E n T [.ref (E.2.1 + 0), .int x1, .int x2] σ) (g_Qi E n T a) 0 0 (g_A E) :=
  g_metI (by decide +kernel) rfl rfl (Nat.le_of_ble_eq_true rfl) (fun M Qf C q => by rw [← h]; exact w_m_X10_price_0 C q hA x1 x2 σ)
def L_m_X10_undo : List Nat := [0, 16, 17, 18, 19, 20, 21, 22, 23, 24, 25, 26, 27, 28, 29, 30, 31, 32, 33, 34, 35, 36, 37, 38, 39, 40, 41, 42, 43, 44, 45, 46, 47, 48, 49, 50, 51, 52, 53]
abbrev rm_m_X10_undo : Room := { frames := 3, cells := 0, slots := 0, locals := 104 }
theorem f_X10_undo_127 : g_Fld wsX10_undo RX10 127 4 6 := ⟨RX4, TX4, 8, rfl, by decide +kernel, by decide, by decide +kernel⟩
theorem f_X10_undo_160 : g_Fld wsX10_undo RX10 160 5 2 := ⟨RX5, TX5, 3, rfl, by decide +kernel, by decide, by decide +kernel⟩
theorem f_X10_undo_30 : g_Fld wsX10_undo RX10 30 10 3 := ⟨RX10, TX10, 15, rfl, by decide +kernel, by decide, by decide +kernel⟩
theorem f_X10_undo_37 : g_Fld wsX10_undo RX10 37 10 4 := ⟨RX10, TX10, 15, rfl, by decide +kernel, by decide, by decide +kernel⟩
theorem c_X10_undo_206 : Cond.constant RX10 206 (-1000000003) ∈ wsX10_undo := by decide +kernel
theorem c_X10_undo_96 : Cond.constant RX10 96 (-1000000002) ∈ wsX10_undo := by decide +kernel
set_option maxHeartbeats 4000000 in
set_option maxRecDepth 100000 in
theorem w_m_X10_undo_0 {X : g_X (Int32 × g_St)} (C : g_C X cX10_undo RX10 wsX10_undo rm_m_X10_undo 2) (q : g_qI X) (hA : g_ag L_m_X10_undo (g_n X) (g_T X)) (x1 : Int32) (σ : g_St) : G X 0 [(0, .ref (g_b X + 0)), (1, .int x1)] [] σ (m_X10_undo x1 σ) := by
  have t0 := g_ag_at hA (c := 0) rfl tc0
  have t16 := g_ag_at hA (c := 16) rfl tc16
  have t22 := g_ag_at hA (c := 22) rfl tc22
  unfold m_X10_undo
  refine G_iload_n C dX10_undo_0 rfl 1 rfl ?_
  refine G_iconst C dX10_undo_1 (v := 1) (by decide +kernel) ?_
  refine G_icmp_lt C dX10_undo_2 (tgt := 11) (by decide) (fun c1 => ?_) (fun c1 => ?_)
  · refine G_ldc C dX10_undo_11 c_X10_undo_96 ?_
    exact G_iret C q dX10_undo_13
  · refine G_iload_n C dX10_undo_5 rfl 1 rfl ?_
    refine G_bipush C dX10_undo_6 (v := 30) (by decide +kernel) ?_
    refine G_icmp_le C dX10_undo_8 (tgt := 14) (by decide) (fun c2 => ?_) (fun c2 => ?_)
    · refine G_iload_n C dX10_undo_14 rfl 1 rfl ?_
      refine G_aload_n C dX10_undo_15 rfl 0 rfl ?_
      refine G_getR C f_X10_undo_37 t0 rfl dX10_undo_16 ?_
      refine G_getI C f_X10_undo_160 t22 rfl dX10_undo_19 ?_
      refine G_icmp_le C dX10_undo_22 (tgt := 28) (by decide) (fun c3 => ?_) (fun c3 => ?_)
      · refine G_aload_n C dX10_undo_28 rfl 0 rfl ?_
        refine G_getR C f_X10_undo_37 t0 rfl dX10_undo_29 ?_
        refine G_iload_n C dX10_undo_32 rfl 1 rfl ?_
        refine G_aload_n C dX10_undo_33 rfl 0 rfl ?_
        refine G_getR C f_X10_undo_30 t0 rfl dX10_undo_34 ?_
        refine G_callV (rest := []) (fun a ha => g_runV C (nargs := 2) (As := [.int x1, .ref (g_b X + 16)]) (rest := []) gX10_undo_X5_takeBack rfl (by decide +kernel) rfl t22 rfl rfl rfl rfl dX10_undo_37 (k_m_X5_takeBack X.1.2.1 X.2.1 (g_n X) (g_T X) (g_ag_sub hA (by decide +kernel)) x1 σ a ha)) (fun σ4 => ?_)
        refine G_aload_n C dX10_undo_40 rfl 0 rfl ?_
        refine G_getR C f_X10_undo_30 t0 rfl dX10_undo_41 ?_
        refine G_getI C f_X10_undo_127 t16 rfl dX10_undo_44 ?_
        exact G_iret C q dX10_undo_47
      · refine G_ldc C dX10_undo_25 c_X10_undo_206 ?_
        exact G_iret C q dX10_undo_27
    · refine G_ldc C dX10_undo_11 c_X10_undo_96 ?_
      exact G_iret C q dX10_undo_13
theorem k_m_X10_undo (l : Launch) (E : g_E) (n : Nat) (T : Nat → g_Sh) (hA : g_ag L_m_X10_undo n T) (x1 : Int32) (σ : g_St) (a : Int32 × g_St) (h : m_X10_undo x1 σ = some a) : Met l yX10_undo wsX10_undo rm_m_X10_undo (g_Pc E n T [.ref (E.2.1 + 0), .int x1] σ) (g_Qi E n T a) 0 0 (g_A E) :=
  g_metI (by decide +kernel) rfl rfl (Nat.le_of_ble_eq_true rfl) (fun M Qf C q => by rw [← h]; exact w_m_X10_undo_0 C q hA x1 σ)
def L_m_X10_odds : List Nat := [0, 13, 14, 16, 19, 20, 59, 60, 61, 62]
abbrev rm_m_X10_odds : Room := { frames := 5, cells := 0, slots := 0, locals := 114 }
theorem f_X10_odds_124 : g_Fld wsX10_odds RX10 124 7 3 := ⟨RX7, TX7, 6, rfl, by decide +kernel, by decide, by decide +kernel⟩
theorem f_X10_odds_130 : g_Fld wsX10_odds RX10 130 4 7 := ⟨RX4, TX4, 8, rfl, by decide +kernel, by decide, by decide +kernel⟩
theorem f_X10_odds_133 : g_Fld wsX10_odds RX10 133 7 4 := ⟨RX7, TX7, 6, rfl, by decide +kernel, by decide, by decide +kernel⟩
theorem f_X10_odds_140 : g_Fld wsX10_odds RX10 140 4 5 := ⟨RX4, TX4, 8, rfl, by decide +kernel, by decide, by decide +kernel⟩
theorem f_X10_odds_23 : g_Fld wsX10_odds RX10 23 10 2 := ⟨RX10, TX10, 15, rfl, by decide +kernel, by decide, by decide +kernel⟩
theorem f_X10_odds_30 : g_Fld wsX10_odds RX10 30 10 3 := ⟨RX10, TX10, 15, rfl, by decide +kernel, by decide, by decide +kernel⟩
theorem f_X10_odds_51 : g_Fld wsX10_odds RX10 51 10 6 := ⟨RX10, TX10, 15, rfl, by decide +kernel, by decide, by decide +kernel⟩
theorem c_X10_odds_167 : Cond.constant RX10 167 (-1000000001) ∈ wsX10_odds := by decide +kernel
theorem c_X10_odds_96 : Cond.constant RX10 96 (-1000000002) ∈ wsX10_odds := by decide +kernel
set_option maxHeartbeats 4000000 in
set_option maxRecDepth 100000 in
theorem w_m_X10_odds_0 {X : g_X (Int32 × g_St)} (C : g_C X cX10_odds RX10 wsX10_odds rm_m_X10_odds 3) (q : g_qI X) (hA : g_ag L_m_X10_odds (g_n X) (g_T X)) (N : Nat) (x1 : Int32) (x2 : Int32) (σ : g_St) : G X 0 [(0, .ref (g_b X + 0)), (1, .int x1), (2, .int x2)] [] σ (m_X10_odds N x1 x2 σ) := by
  have t0 := g_ag_at hA (c := 0) rfl tc0
  have t13 := g_ag_at hA (c := 13) rfl tc13
  have t16 := g_ag_at hA (c := 16) rfl tc16
  have t59 := g_ag_at hA (c := 59) rfl tc59
  unfold m_X10_odds
  refine G_aload_n C dX10_odds_0 rfl 0 rfl ?_
  refine G_iload_n C dX10_odds_1 rfl 1 rfl ?_
  refine G_callI (rest := []) (fun a ha => g_runV C (nargs := 1) (As := [.int x1]) (rest := []) gX10_odds_X10_isPerson rfl (by decide +kernel) rfl t0 rfl rfl rfl rfl dX10_odds_2 (k_m_X10_isPerson X.1.2.1 X.2.1 (g_n X) (g_T X) (g_ag_sub hA (by decide +kernel)) x1 σ a ha)) (fun q1 => ?_)
  refine G_if_ne C dX10_odds_5 (tgt := 11) (by decide) (fun c2 => ?_) (fun c2 => ?_)
  · refine G_ldc C dX10_odds_8 c_X10_odds_167 ?_
    exact G_iret C q dX10_odds_10
  · refine G_iload_n C dX10_odds_11 rfl 2 rfl ?_
    refine G_if_lt C dX10_odds_12 (tgt := 21) (by decide) (fun c3 => ?_) (fun c3 => ?_)
    · refine G_ldc C dX10_odds_21 c_X10_odds_96 ?_
      exact G_iret C q dX10_odds_23
    · refine G_iload_n C dX10_odds_15 rfl 2 rfl ?_
      refine G_bipush C dX10_odds_16 (v := 8) (by decide +kernel) ?_
      refine G_icmp_le C dX10_odds_18 (tgt := 24) (by decide) (fun c4 => ?_) (fun c4 => ?_)
      · refine G_aload_n C dX10_odds_24 rfl 0 rfl ?_
        refine G_getR C f_X10_odds_51 t0 rfl dX10_odds_25 ?_
        refine G_aload_n C dX10_odds_28 rfl 0 rfl ?_
        refine G_getR C f_X10_odds_23 t0 rfl dX10_odds_29 ?_
        refine G_aload_n C dX10_odds_32 rfl 0 rfl ?_
        refine G_getR C f_X10_odds_30 t0 rfl dX10_odds_33 ?_
        refine G_getI C f_X10_odds_140 t16 rfl dX10_odds_36 ?_
        refine G_aload_n C dX10_odds_39 rfl 0 rfl ?_
        refine G_getR C f_X10_odds_23 t0 rfl dX10_odds_40 ?_
        refine G_getI C f_X10_odds_133 t13 rfl dX10_odds_43 ?_
        refine G_aload_n C dX10_odds_46 rfl 0 rfl ?_
        refine G_getR C f_X10_odds_30 t0 rfl dX10_odds_47 ?_
        refine G_getI C f_X10_odds_130 t16 rfl dX10_odds_50 ?_
        refine G_isub C dX10_odds_53 ?_
        refine G_callV (rest := []) (fun a ha => g_runV C (nargs := 3) (As := [.ref (g_b X + 13), .int (q1.2.1 16 5), .int ((q1.2.1 13 4) - (q1.2.1 16 7))]) (rest := []) gX10_odds_X2_begin rfl (by decide +kernel) rfl t59 rfl rfl rfl rfl dX10_odds_54 (k_m_X2_begin X.1.2.1 X.2.1 (g_n X) (g_T X) (g_ag_sub hA (by decide +kernel)) N (q1.2.1 16 5) ((q1.2.1 13 4) - (q1.2.1 16 7)) q1.2 a ha)) (fun σ5 => ?_)
        refine G_aload_n C dX10_odds_57 rfl 0 rfl ?_
        refine G_getR C f_X10_odds_51 t0 rfl dX10_odds_58 ?_
        refine G_aload_n C dX10_odds_61 rfl 0 rfl ?_
        refine G_getR C f_X10_odds_23 t0 rfl dX10_odds_62 ?_
        refine G_aload_n C dX10_odds_65 rfl 0 rfl ?_
        refine G_getR C f_X10_odds_30 t0 rfl dX10_odds_66 ?_
        refine G_iload_n C dX10_odds_69 rfl 1 rfl ?_
        refine G_aload_n C dX10_odds_70 rfl 0 rfl ?_
        refine G_getR C f_X10_odds_23 t0 rfl dX10_odds_71 ?_
        refine G_getI C f_X10_odds_124 t13 rfl dX10_odds_74 ?_
        refine G_callI (rest := [.ref (g_b X + 13), .ref (g_b X + 59)]) (fun a ha => g_runV C (nargs := 2) (As := [.int x1, .int (σ5.1 13 3)]) (rest := [.ref (g_b X + 13), .ref (g_b X + 59)]) gX10_odds_X4_agingFor rfl (by decide +kernel) rfl t16 rfl rfl rfl rfl dX10_odds_77 (k_m_X4_agingFor X.1.2.1 X.2.1 (g_n X) (g_T X) (g_ag_sub hA (by decide +kernel)) N x1 (σ5.1 13 3) σ5 a ha)) (fun q6 => ?_)
        refine G_iload_n C dX10_odds_80 rfl 2 rfl ?_
        refine G_callL (rest := []) (fun a ha => g_runV C (nargs := 3) (As := [.ref (g_b X + 13), .int q6.1, .int x2]) (rest := []) gX10_odds_X2_atLeast rfl (by decide +kernel) rfl t59 rfl rfl rfl rfl dX10_odds_81 (k_m_X2_atLeast X.1.2.1 X.2.1 (g_n X) (g_T X) (g_ag_sub hA (by decide +kernel)) N q6.1 x2 q6.2 a ha)) (fun q7 => ?_)
        refine G_l2i C dX10_odds_84 ?_
        exact G_iret C q dX10_odds_85
      · refine G_ldc C dX10_odds_21 c_X10_odds_96 ?_
        exact G_iret C q dX10_odds_23
theorem k_m_X10_odds (l : Launch) (E : g_E) (n : Nat) (T : Nat → g_Sh) (hA : g_ag L_m_X10_odds n T) (N : Nat) (x1 : Int32) (x2 : Int32) (σ : g_St) (a : Int32 × g_St) (h : m_X10_odds N x1 x2 σ = some a) : Met l yX10_odds wsX10_odds rm_m_X10_odds (g_Pc E n T [.ref (E.2.1 + 0), .int x1, .int x2] σ) (g_Qi E n T a) 0 0 (g_A E) :=
  g_metI (by decide +kernel) rfl rfl (Nat.le_of_ble_eq_true rfl) (fun M Qf C q => by rw [← h]; exact w_m_X10_odds_0 C q hA N x1 x2 σ)
def L_m_X10_never : List Nat := [0, 13, 14, 16, 19, 20, 59, 60, 61, 62]
abbrev rm_m_X10_never : Room := { frames := 5, cells := 0, slots := 0, locals := 114 }
theorem f_X10_never_124 : g_Fld wsX10_never RX10 124 7 3 := ⟨RX7, TX7, 6, rfl, by decide +kernel, by decide, by decide +kernel⟩
theorem f_X10_never_133 : g_Fld wsX10_never RX10 133 7 4 := ⟨RX7, TX7, 6, rfl, by decide +kernel, by decide, by decide +kernel⟩
theorem f_X10_never_23 : g_Fld wsX10_never RX10 23 10 2 := ⟨RX10, TX10, 15, rfl, by decide +kernel, by decide, by decide +kernel⟩
theorem f_X10_never_30 : g_Fld wsX10_never RX10 30 10 3 := ⟨RX10, TX10, 15, rfl, by decide +kernel, by decide, by decide +kernel⟩
theorem f_X10_never_51 : g_Fld wsX10_never RX10 51 10 6 := ⟨RX10, TX10, 15, rfl, by decide +kernel, by decide, by decide +kernel⟩
theorem c_X10_never_167 : Cond.constant RX10 167 (-1000000001) ∈ wsX10_never := by decide +kernel
theorem c_X10_never_244 : Cond.constantLong RX10 244 (1000000000) ∈ wsX10_never := by decide +kernel
theorem c_X10_never_96 : Cond.constant RX10 96 (-1000000002) ∈ wsX10_never := by decide +kernel
set_option maxHeartbeats 4000000 in
set_option maxRecDepth 100000 in
theorem w_m_X10_never_90 {X : g_X (Int32 × g_St)} (C : g_C X cX10_never RX10 wsX10_never rm_m_X10_never 8) (q : g_qI X) (hA : g_ag L_m_X10_never (g_n X) (g_T X)) (N : Nat) : ∀ (fu : Nat) (x2 : Int32) (x3 : Int64) (x5 : Int64) (x7 : Int32) (σ : g_St), G X 90 [(2, .int x2), (3, .long x3), (5, .long x5), (7, .int x7)] [] σ (m_X10_never_90 N fu x2 x3 x5 x7 σ) := by
  intro fu
  induction fu with
  | zero => intro x2 x3 x5 x7 σ; exact G_none
  | succ fu ih =>
    intro x2 x3 x5 x7 σ
    unfold m_X10_never_90
    refine G_iload C dX10_never_90 3 rfl ?_
    refine G_iload_n C dX10_never_92 rfl 0 rfl ?_
    refine G_icmp_ge C dX10_never_93 (tgt := 112) (by decide) (fun c1 => ?_) (fun c1 => ?_)
    · refine G_lload C dX10_never_112 2 rfl ?_
      refine G_l2i C dX10_never_114 ?_
      exact G_iret C q dX10_never_115
    · refine G_lload C dX10_never_96 2 rfl ?_
      refine G_lload_n C dX10_never_98 rfl 1 rfl ?_
      refine G_lmul C dX10_never_99 ?_
      refine G_ldc2 C dX10_never_100 c_X10_never_244 ?_
      refine G_ldiv C dX10_never_103 (by decide) ?_
      refine G_ltl (fun v2 => ?_)
      refine G_lstore C dX10_never_104 rfl (lv' := [(5, .long v2), (2, .int x2), (3, .long x3), (7, .int x7)]) rfl ?_
      refine G_iinc C dX10_never_106 3 rfl (v := (x7 + (1 : Int32))) (by rfl) rfl (lv' := [(7, .int (x7 + (1 : Int32))), (5, .long v2), (2, .int x2), (3, .long x3)]) rfl ?_
      refine G_ltv (fun v => [(7, .int v), (5, .long v2), (2, .int x2), (3, .long x3)]) (fun v3 => ?_)
      refine G_goto C dX10_never_109 (tgt := 90) (by decide) ?_
      exact G_sub (ih x2 x3 v2 v3 σ) [2, 3, 1, 0] rfl
set_option maxHeartbeats 4000000 in
set_option maxRecDepth 100000 in
theorem w_m_X10_never_0 {X : g_X (Int32 × g_St)} (C : g_C X cX10_never RX10 wsX10_never rm_m_X10_never 8) (q : g_qI X) (hA : g_ag L_m_X10_never (g_n X) (g_T X)) (N : Nat) (x1 : Int32) (x2 : Int32) (σ : g_St) : G X 0 [(0, .ref (g_b X + 0)), (1, .int x1), (2, .int x2)] [] σ (m_X10_never N x1 x2 σ) := by
  have t0 := g_ag_at hA (c := 0) rfl tc0
  have t13 := g_ag_at hA (c := 13) rfl tc13
  have t16 := g_ag_at hA (c := 16) rfl tc16
  have t59 := g_ag_at hA (c := 59) rfl tc59
  unfold m_X10_never
  refine G_aload_n C dX10_never_0 rfl 0 rfl ?_
  refine G_iload_n C dX10_never_1 rfl 1 rfl ?_
  refine G_callI (rest := []) (fun a ha => g_runV C (nargs := 1) (As := [.int x1]) (rest := []) gX10_never_X10_isPerson rfl (by decide +kernel) rfl t0 rfl rfl rfl rfl dX10_never_2 (k_m_X10_isPerson X.1.2.1 X.2.1 (g_n X) (g_T X) (g_ag_sub hA (by decide +kernel)) x1 σ a ha)) (fun q1 => ?_)
  refine G_if_ne C dX10_never_5 (tgt := 11) (by decide) (fun c2 => ?_) (fun c2 => ?_)
  · refine G_ldc C dX10_never_8 c_X10_never_167 ?_
    exact G_iret C q dX10_never_10
  · refine G_iload_n C dX10_never_11 rfl 2 rfl ?_
    refine G_iconst C dX10_never_12 (v := 1) (by decide +kernel) ?_
    refine G_icmp_lt C dX10_never_13 (tgt := 22) (by decide) (fun c3 => ?_) (fun c3 => ?_)
    · refine G_ldc C dX10_never_22 c_X10_never_96 ?_
      exact G_iret C q dX10_never_24
    · refine G_iload_n C dX10_never_16 rfl 2 rfl ?_
      refine G_bipush C dX10_never_17 (v := 99) (by decide +kernel) ?_
      refine G_icmp_le C dX10_never_19 (tgt := 25) (by decide) (fun c4 => ?_) (fun c4 => ?_)
      · refine G_aload_n C dX10_never_25 rfl 0 rfl ?_
        refine G_getR C f_X10_never_51 t0 rfl dX10_never_26 ?_
        refine G_aload_n C dX10_never_29 rfl 0 rfl ?_
        refine G_getR C f_X10_never_23 t0 rfl dX10_never_30 ?_
        refine G_aload_n C dX10_never_33 rfl 0 rfl ?_
        refine G_getR C f_X10_never_23 t0 rfl dX10_never_34 ?_
        refine G_callI (rest := [.ref (g_b X + 13), .ref (g_b X + 59)]) (fun a ha => g_runV C (nargs := 0) (As := []) (rest := [.ref (g_b X + 13), .ref (g_b X + 59)]) gX10_never_X7_everyTicket rfl (by decide +kernel) rfl t13 rfl rfl rfl rfl dX10_never_37 (k_m_X7_everyTicket X.1.2.1 X.2.1 (g_n X) (g_T X) (g_ag_sub hA (by decide +kernel)) q1.2 a ha)) (fun q5 => ?_)
        refine G_aload_n C dX10_never_40 rfl 0 rfl ?_
        refine G_getR C f_X10_never_23 t0 rfl dX10_never_41 ?_
        refine G_getI C f_X10_never_133 t13 rfl dX10_never_44 ?_
        refine G_callV (rest := []) (fun a ha => g_runV C (nargs := 3) (As := [.ref (g_b X + 13), .int q5.1, .int (q5.2.1 13 4)]) (rest := []) gX10_never_X2_begin rfl (by decide +kernel) rfl t59 rfl rfl rfl rfl dX10_never_47 (k_m_X2_begin X.1.2.1 X.2.1 (g_n X) (g_T X) (g_ag_sub hA (by decide +kernel)) N q5.1 (q5.2.1 13 4) q5.2 a ha)) (fun σ6 => ?_)
        refine G_ldc2 C dX10_never_50 c_X10_never_244 ?_
        refine G_aload_n C dX10_never_53 rfl 0 rfl ?_
        refine G_getR C f_X10_never_51 t0 rfl dX10_never_54 ?_
        refine G_aload_n C dX10_never_57 rfl 0 rfl ?_
        refine G_getR C f_X10_never_23 t0 rfl dX10_never_58 ?_
        refine G_aload_n C dX10_never_61 rfl 0 rfl ?_
        refine G_getR C f_X10_never_30 t0 rfl dX10_never_62 ?_
        refine G_iload_n C dX10_never_65 rfl 1 rfl ?_
        refine G_aload_n C dX10_never_66 rfl 0 rfl ?_
        refine G_getR C f_X10_never_23 t0 rfl dX10_never_67 ?_
        refine G_getI C f_X10_never_124 t13 rfl dX10_never_70 ?_
        refine G_callI (rest := [.ref (g_b X + 13), .ref (g_b X + 59), .long (1000000000 : Int64)]) (fun a ha => g_runV C (nargs := 2) (As := [.int x1, .int (σ6.1 13 3)]) (rest := [.ref (g_b X + 13), .ref (g_b X + 59), .long (1000000000 : Int64)]) gX10_never_X4_agingFor rfl (by decide +kernel) rfl t16 rfl rfl rfl rfl dX10_never_73 (k_m_X4_agingFor X.1.2.1 X.2.1 (g_n X) (g_T X) (g_ag_sub hA (by decide +kernel)) N x1 (σ6.1 13 3) σ6 a ha)) (fun q7 => ?_)
        refine G_iconst C dX10_never_76 (v := 1) (by decide +kernel) ?_
        refine G_callL (rest := [.long (1000000000 : Int64)]) (fun a ha => g_runV C (nargs := 3) (As := [.ref (g_b X + 13), .int q7.1, .int (1 : Int32)]) (rest := [.long (1000000000 : Int64)]) gX10_never_X2_atLeast rfl (by decide +kernel) rfl t59 rfl rfl rfl rfl dX10_never_77 (k_m_X2_atLeast X.1.2.1 X.2.1 (g_n X) (g_T X) (g_ag_sub hA (by decide +kernel)) N q7.1 (1 : Int32) q7.2 a ha)) (fun q8 => ?_)
        refine G_lsub C dX10_never_80 ?_
        refine G_ltl (fun v9 => ?_)
        refine G_lstore_n C dX10_never_81 rfl rfl (lv' := [(3, .long v9), (0, .ref (g_b X + 0)), (1, .int x1), (2, .int x2)]) rfl ?_
        refine G_ldc2 C dX10_never_82 c_X10_never_244 ?_
        refine G_lstore C dX10_never_85 rfl (lv' := [(5, .long (1000000000 : Int64)), (3, .long v9), (0, .ref (g_b X + 0)), (1, .int x1), (2, .int x2)]) rfl ?_
        refine G_iconst C dX10_never_87 (v := 0) (by decide +kernel) ?_
        refine G_istore C dX10_never_88 rfl (lv' := [(7, .int (0 : Int32)), (5, .long (1000000000 : Int64)), (3, .long v9), (0, .ref (g_b X + 0)), (1, .int x1), (2, .int x2)]) rfl ?_
        exact G_sub (w_m_X10_never_90 C q hA N N x2 v9 (1000000000 : Int64) (0 : Int32) q8.2) [5, 2, 1, 0] rfl
      · refine G_ldc C dX10_never_22 c_X10_never_96 ?_
        exact G_iret C q dX10_never_24
theorem k_m_X10_never (l : Launch) (E : g_E) (n : Nat) (T : Nat → g_Sh) (hA : g_ag L_m_X10_never n T) (N : Nat) (x1 : Int32) (x2 : Int32) (σ : g_St) (a : Int32 × g_St) (h : m_X10_never N x1 x2 σ = some a) : Met l yX10_never wsX10_never rm_m_X10_never (g_Pc E n T [.ref (E.2.1 + 0), .int x1, .int x2] σ) (g_Qi E n T a) 0 0 (g_A E) :=
  g_metI (by decide +kernel) rfl rfl (Nat.le_of_ble_eq_true rfl) (fun M Qf C q => by rw [← h]; exact w_m_X10_never_0 C q hA N x1 x2 σ)
def L_m_X10_cheapest : List Nat := [0, 13, 14, 16, 18, 19, 20, 21, 59, 60, 61, 62]
abbrev rm_m_X10_cheapest : Room := { frames := 5, cells := 0, slots := 0, locals := 114 }
theorem f_X10_cheapest_124 : g_Fld wsX10_cheapest RX10 124 7 3 := ⟨RX7, TX7, 6, rfl, by decide +kernel, by decide, by decide +kernel⟩
theorem f_X10_cheapest_130 : g_Fld wsX10_cheapest RX10 130 4 7 := ⟨RX4, TX4, 8, rfl, by decide +kernel, by decide, by decide +kernel⟩
theorem f_X10_cheapest_133 : g_Fld wsX10_cheapest RX10 133 7 4 := ⟨RX7, TX7, 6, rfl, by decide +kernel, by decide, by decide +kernel⟩
theorem f_X10_cheapest_140 : g_Fld wsX10_cheapest RX10 140 4 5 := ⟨RX4, TX4, 8, rfl, by decide +kernel, by decide, by decide +kernel⟩
theorem f_X10_cheapest_168 : g_Fld wsX10_cheapest RX10 168 4 1 := ⟨RX4, TX4, 8, rfl, by decide +kernel, by decide, by decide +kernel⟩
theorem f_X10_cheapest_23 : g_Fld wsX10_cheapest RX10 23 10 2 := ⟨RX10, TX10, 15, rfl, by decide +kernel, by decide, by decide +kernel⟩
theorem f_X10_cheapest_30 : g_Fld wsX10_cheapest RX10 30 10 3 := ⟨RX10, TX10, 15, rfl, by decide +kernel, by decide, by decide +kernel⟩
theorem f_X10_cheapest_51 : g_Fld wsX10_cheapest RX10 51 10 6 := ⟨RX10, TX10, 15, rfl, by decide +kernel, by decide, by decide +kernel⟩
set_option maxHeartbeats 4000000 in
set_option maxRecDepth 100000 in
theorem w_m_X10_cheapest_200 {X : g_X (Int32 × g_St)} (C : g_C X cX10_cheapest RX10 wsX10_cheapest rm_m_X10_cheapest 14) (q : g_qI X) (hA : g_ag L_m_X10_cheapest (g_n X) (g_T X)) (k95 : Int32 → Int64 → Int32 → Int32 → Int32 → Int32 → Int32 → Int32 → g_St → Option (Int32 × g_St)) (hk95 : ∀ (x2 : Int32) (x3 : Int64) (x5 : Int32) (x6 : Int32) (x7 : Int32) (x8 : Int32) (x9 : Int32) (x10 : Int32) (σ : g_St), G X 95 [(0, .ref (g_b X + 0)), (2, .int x2), (3, .long x3), (5, .int x5), (6, .int x6), (7, .int x7), (8, .int x8), (9, .int x9), (10, .int x10)] [] σ (k95 x2 x3 x5 x6 x7 x8 x9 x10 σ)) (N : Nat) (x2 : Int32) (x3 : Int64) (x5 : Int32) (x6 : Int32) (x7 : Int32) (x8 : Int32) (x9 : Int32) (x10 : Int32) (σ : g_St) : G X 200 [(0, .ref (g_b X + 0)), (2, .int x2), (3, .long x3), (5, .int x5), (6, .int x6), (7, .int x7), (8, .int x8), (9, .int x9), (10, .int x10)] [] σ (m_X10_cheapest_200 k95 N x2 x3 x5 x6 x7 x8 x9 x10 σ) := by
  unfold m_X10_cheapest_200
  refine G_iinc C dX10_cheapest_200 8 rfl (v := (x10 + (1 : Int32))) (by rfl) rfl (lv' := [(10, .int (x10 + (1 : Int32))), (0, .ref (g_b X + 0)), (2, .int x2), (3, .long x3), (5, .int x5), (6, .int x6), (7, .int x7), (8, .int x8), (9, .int x9)]) rfl ?_
  refine G_ltv (fun v => [(10, .int v), (0, .ref (g_b X + 0)), (2, .int x2), (3, .long x3), (5, .int x5), (6, .int x6), (7, .int x7), (8, .int x8), (9, .int x9)]) (fun v1 => ?_)
  refine G_goto C dX10_cheapest_203 (tgt := 95) (by decide) ?_
  exact G_sub (hk95 x2 x3 x5 x6 x7 x8 x9 v1 σ) [1, 2, 3, 4, 5, 6, 7, 8, 0] rfl
set_option maxHeartbeats 4000000 in
set_option maxRecDepth 100000 in
theorem w_m_X10_cheapest_159 {X : g_X (Int32 × g_St)} (C : g_C X cX10_cheapest RX10 wsX10_cheapest rm_m_X10_cheapest 14) (q : g_qI X) (hA : g_ag L_m_X10_cheapest (g_n X) (g_T X)) (k95 : Int32 → Int64 → Int32 → Int32 → Int32 → Int32 → Int32 → Int32 → g_St → Option (Int32 × g_St)) (hk95 : ∀ (x2 : Int32) (x3 : Int64) (x5 : Int32) (x6 : Int32) (x7 : Int32) (x8 : Int32) (x9 : Int32) (x10 : Int32) (σ : g_St), G X 95 [(0, .ref (g_b X + 0)), (2, .int x2), (3, .long x3), (5, .int x5), (6, .int x6), (7, .int x7), (8, .int x8), (9, .int x9), (10, .int x10)] [] σ (k95 x2 x3 x5 x6 x7 x8 x9 x10 σ)) (N : Nat) (x2 : Int32) (x3 : Int64) (x5 : Int32) (x6 : Int32) (x7 : Int32) (x8 : Int32) (x9 : Int32) (x10 : Int32) (x11 : Int32) (x12 : Int32) (s0 : Int32) (σ : g_St) : G X 159 [(0, .ref (g_b X + 0)), (2, .int x2), (3, .long x3), (5, .int x5), (6, .int x6), (7, .int x7), (8, .int x8), (9, .int x9), (10, .int x10), (11, .int x11), (12, .int x12)] [.int s0] σ (m_X10_cheapest_159 k95 N x2 x3 x5 x6 x7 x8 x9 x10 x11 x12 s0 σ) := by
  have t0 := g_ag_at hA (c := 0) rfl tc0
  have t59 := g_ag_at hA (c := 59) rfl tc59
  unfold m_X10_cheapest_159
  refine G_istore C dX10_cheapest_159 rfl (lv' := [(13, .int s0), (0, .ref (g_b X + 0)), (2, .int x2), (3, .long x3), (5, .int x5), (6, .int x6), (7, .int x7), (8, .int x8), (9, .int x9), (10, .int x10), (11, .int x11), (12, .int x12)]) rfl ?_
  refine G_iload C dX10_cheapest_161 0 rfl ?_
  refine G_if_eq C dX10_cheapest_163 (tgt := 200) (by decide) (fun c1 => ?_) (fun c1 => ?_)
  · exact G_sub (w_m_X10_cheapest_200 C q hA k95 hk95 N x2 x3 x5 x6 x7 x8 x9 x10 σ) [1, 2, 3, 4, 5, 6, 7, 8, 9] rfl
  · refine G_aload_n C dX10_cheapest_166 rfl 1 rfl ?_
    refine G_getR C f_X10_cheapest_51 t0 rfl dX10_cheapest_167 ?_
    refine G_aload_n C dX10_cheapest_170 rfl 1 rfl ?_
    refine G_getR C f_X10_cheapest_23 t0 rfl dX10_cheapest_171 ?_
    refine G_iload C dX10_cheapest_174 4 rfl ?_
    refine G_iload C dX10_cheapest_176 9 rfl ?_
    refine G_ior C dX10_cheapest_178 ?_
    refine G_iload_n C dX10_cheapest_179 rfl 2 rfl ?_
    refine G_callL (rest := []) (fun a ha => g_runV C (nargs := 3) (As := [.ref (g_b X + 13), .int (x5 ||| x10), .int x2]) (rest := []) gX10_cheapest_X2_atLeast rfl (by decide +kernel) rfl t59 rfl rfl rfl rfl dX10_cheapest_180 (k_m_X2_atLeast X.1.2.1 X.2.1 (g_n X) (g_T X) (g_ag_sub hA (by decide +kernel)) N (x5 ||| x10) x2 σ a ha)) (fun q2 => ?_)
    refine G_lload_n C dX10_cheapest_183 rfl 3 rfl ?_
    refine G_lcmp C dX10_cheapest_184 ?_
    refine G_if_lt C dX10_cheapest_185 (tgt := 200) (by decide) (fun c3 => ?_) (fun c3 => ?_)
    · exact G_sub (w_m_X10_cheapest_200 C q hA k95 hk95 N x2 x3 x5 x6 x7 x8 x9 x10 q2.2) [1, 2, 3, 4, 5, 6, 7, 8, 9] rfl
    · refine G_iload C dX10_cheapest_188 9 rfl ?_
      refine G_istore C dX10_cheapest_190 rfl (lv' := [(7, .int x10), (13, .int s0), (0, .ref (g_b X + 0)), (2, .int x2), (3, .long x3), (5, .int x5), (6, .int x6), (8, .int x8), (9, .int x9), (10, .int x10), (11, .int x11), (12, .int x12)]) rfl ?_
      refine G_iload C dX10_cheapest_192 10 rfl ?_
      refine G_istore C dX10_cheapest_194 rfl (lv' := [(8, .int x11), (7, .int x10), (13, .int s0), (0, .ref (g_b X + 0)), (2, .int x2), (3, .long x3), (5, .int x5), (6, .int x6), (9, .int x9), (10, .int x10), (11, .int x11), (12, .int x12)]) rfl ?_
      refine G_iload C dX10_cheapest_196 11 rfl ?_
      refine G_istore C dX10_cheapest_198 rfl (lv' := [(9, .int x12), (8, .int x11), (7, .int x10), (13, .int s0), (0, .ref (g_b X + 0)), (2, .int x2), (3, .long x3), (5, .int x5), (6, .int x6), (10, .int x10), (11, .int x11), (12, .int x12)]) rfl ?_
      exact G_sub (w_m_X10_cheapest_200 C q hA k95 hk95 N x2 x3 x5 x6 x10 x11 x12 x10 q2.2) [4, 5, 6, 7, 8, 2, 1, 0, 9] rfl
set_option maxHeartbeats 4000000 in
set_option maxRecDepth 100000 in
theorem w_m_X10_cheapest_154 {X : g_X (Int32 × g_St)} (C : g_C X cX10_cheapest RX10 wsX10_cheapest rm_m_X10_cheapest 14) (q : g_qI X) (hA : g_ag L_m_X10_cheapest (g_n X) (g_T X)) (k95 : Int32 → Int64 → Int32 → Int32 → Int32 → Int32 → Int32 → Int32 → g_St → Option (Int32 × g_St)) (hk95 : ∀ (x2 : Int32) (x3 : Int64) (x5 : Int32) (x6 : Int32) (x7 : Int32) (x8 : Int32) (x9 : Int32) (x10 : Int32) (σ : g_St), G X 95 [(0, .ref (g_b X + 0)), (2, .int x2), (3, .long x3), (5, .int x5), (6, .int x6), (7, .int x7), (8, .int x8), (9, .int x9), (10, .int x10)] [] σ (k95 x2 x3 x5 x6 x7 x8 x9 x10 σ)) (N : Nat) (x2 : Int32) (x3 : Int64) (x5 : Int32) (x6 : Int32) (x7 : Int32) (x8 : Int32) (x9 : Int32) (x10 : Int32) (x11 : Int32) (x12 : Int32) (σ : g_St) : G X 154 [(0, .ref (g_b X + 0)), (2, .int x2), (3, .long x3), (5, .int x5), (6, .int x6), (7, .int x7), (8, .int x8), (9, .int x9), (10, .int x10), (11, .int x11), (12, .int x12)] [] σ (m_X10_cheapest_154 k95 N x2 x3 x5 x6 x7 x8 x9 x10 x11 x12 σ) := by
  unfold m_X10_cheapest_154
  refine G_iconst C dX10_cheapest_154 (v := 1) (by decide +kernel) ?_
  refine G_goto C dX10_cheapest_155 (tgt := 159) (by decide) ?_
  exact w_m_X10_cheapest_159 C q hA k95 hk95 N x2 x3 x5 x6 x7 x8 x9 x10 x11 x12 (1 : Int32) σ
set_option maxHeartbeats 4000000 in
set_option maxRecDepth 100000 in
theorem w_m_X10_cheapest_158 {X : g_X (Int32 × g_St)} (C : g_C X cX10_cheapest RX10 wsX10_cheapest rm_m_X10_cheapest 14) (q : g_qI X) (hA : g_ag L_m_X10_cheapest (g_n X) (g_T X)) (k95 : Int32 → Int64 → Int32 → Int32 → Int32 → Int32 → Int32 → Int32 → g_St → Option (Int32 × g_St)) (hk95 : ∀ (x2 : Int32) (x3 : Int64) (x5 : Int32) (x6 : Int32) (x7 : Int32) (x8 : Int32) (x9 : Int32) (x10 : Int32) (σ : g_St), G X 95 [(0, .ref (g_b X + 0)), (2, .int x2), (3, .long x3), (5, .int x5), (6, .int x6), (7, .int x7), (8, .int x8), (9, .int x9), (10, .int x10)] [] σ (k95 x2 x3 x5 x6 x7 x8 x9 x10 σ)) (N : Nat) (x2 : Int32) (x3 : Int64) (x5 : Int32) (x6 : Int32) (x7 : Int32) (x8 : Int32) (x9 : Int32) (x10 : Int32) (x11 : Int32) (x12 : Int32) (σ : g_St) : G X 158 [(0, .ref (g_b X + 0)), (2, .int x2), (3, .long x3), (5, .int x5), (6, .int x6), (7, .int x7), (8, .int x8), (9, .int x9), (10, .int x10), (11, .int x11), (12, .int x12)] [] σ (m_X10_cheapest_158 k95 N x2 x3 x5 x6 x7 x8 x9 x10 x11 x12 σ) := by
  unfold m_X10_cheapest_158
  refine G_iconst C dX10_cheapest_158 (v := 0) (by decide +kernel) ?_
  exact w_m_X10_cheapest_159 C q hA k95 hk95 N x2 x3 x5 x6 x7 x8 x9 x10 x11 x12 (0 : Int32) σ
set_option maxHeartbeats 4000000 in
set_option maxRecDepth 100000 in
theorem w_m_X10_cheapest_95 {X : g_X (Int32 × g_St)} (C : g_C X cX10_cheapest RX10 wsX10_cheapest rm_m_X10_cheapest 14) (q : g_qI X) (hA : g_ag L_m_X10_cheapest (g_n X) (g_T X)) (N : Nat) : ∀ (fu : Nat) (x2 : Int32) (x3 : Int64) (x5 : Int32) (x6 : Int32) (x7 : Int32) (x8 : Int32) (x9 : Int32) (x10 : Int32) (σ : g_St), G X 95 [(0, .ref (g_b X + 0)), (2, .int x2), (3, .long x3), (5, .int x5), (6, .int x6), (7, .int x7), (8, .int x8), (9, .int x9), (10, .int x10)] [] σ (m_X10_cheapest_95 N fu x2 x3 x5 x6 x7 x8 x9 x10 σ) := by
  have t0 := g_ag_at hA (c := 0) rfl tc0
  have t16 := g_ag_at hA (c := 16) rfl tc16
  intro fu
  induction fu with
  | zero => intro x2 x3 x5 x6 x7 x8 x9 x10 σ; exact G_none
  | succ fu ih =>
    intro x2 x3 x5 x6 x7 x8 x9 x10 σ
    unfold m_X10_cheapest_95
    refine G_iload C dX10_cheapest_95 8 rfl ?_
    refine G_iload C dX10_cheapest_97 4 rfl ?_
    refine G_icmp_gt C dX10_cheapest_99 (tgt := 206) (by decide) (fun c1 => ?_) (fun c1 => ?_)
    · refine G_iload C dX10_cheapest_206 5 rfl ?_
      exact G_iret C q dX10_cheapest_208
    · refine G_iload C dX10_cheapest_102 8 rfl ?_
      refine G_iload C dX10_cheapest_104 4 rfl ?_
      refine G_iconst C dX10_cheapest_106 (v := -1) (by decide +kernel) ?_
      refine G_ixor C dX10_cheapest_107 ?_
      refine G_iand C dX10_cheapest_108 ?_
      refine G_if_eq C dX10_cheapest_109 (tgt := 115) (by decide) (fun c2 => ?_) (fun c2 => ?_)
      · refine G_aload_n C dX10_cheapest_115 rfl 0 rfl ?_
        refine G_getR C f_X10_cheapest_30 t0 rfl dX10_cheapest_116 ?_
        refine G_iload C dX10_cheapest_119 8 rfl ?_
        refine G_callI (rest := []) (fun a ha => g_runV C (nargs := 1) (As := [.int x10]) (rest := []) gX10_cheapest_X4_priceOf rfl (by decide +kernel) rfl t16 rfl rfl rfl rfl dX10_cheapest_121 (k_m_X4_priceOf X.1.2.1 X.2.1 (g_n X) (g_T X) (g_ag_sub hA (by decide +kernel)) N x10 σ a ha)) (fun q3 => ?_)
        refine G_istore C dX10_cheapest_124 rfl (lv' := [(11, .int q3.1), (0, .ref (g_b X + 0)), (2, .int x2), (3, .long x3), (5, .int x5), (6, .int x6), (7, .int x7), (8, .int x8), (9, .int x9), (10, .int x10)]) rfl ?_
        refine G_iload C dX10_cheapest_126 9 rfl ?_
        refine G_callI (rest := []) (fun a ha => g_runS C (nargs := 1) (As := [.int x10]) (rest := []) gX10_cheapest_J6_bitCount_0f7a4 rfl (by decide +kernel) rfl rfl rfl dX10_cheapest_128 (k_m_J6_bitCount X.1.2.1 X.2.1 (g_n X) (g_T X) (g_ag_sub hA (by decide +kernel)) x10 q3.2 a ha)) (fun q4 => ?_)
        refine G_istore C dX10_cheapest_131 rfl (lv' := [(12, .int q4.1), (11, .int q3.1), (0, .ref (g_b X + 0)), (2, .int x2), (3, .long x3), (5, .int x5), (6, .int x6), (7, .int x7), (8, .int x8), (9, .int x9), (10, .int x10)]) rfl ?_
        refine G_iload C dX10_cheapest_133 1 rfl ?_
        refine G_iload C dX10_cheapest_135 8 rfl ?_
        refine G_icmp_lt C dX10_cheapest_137 (tgt := 154) (by decide) (fun c5 => ?_) (fun c5 => ?_)
        · exact G_sub (w_m_X10_cheapest_154 C q hA (m_X10_cheapest_95 N fu) ih N x2 x3 x5 x6 x7 x8 x9 x10 q3.1 q4.1 q4.2) [2, 3, 4, 5, 6, 7, 8, 9, 10, 1, 0] rfl
        · refine G_iload C dX10_cheapest_140 1 rfl ?_
          refine G_iload C dX10_cheapest_142 8 rfl ?_
          refine G_icmp_ne C dX10_cheapest_144 (tgt := 158) (by decide) (fun c6 => ?_) (fun c6 => ?_)
          · refine G_iload C dX10_cheapest_147 0 rfl ?_
            refine G_iload C dX10_cheapest_149 9 rfl ?_
            refine G_icmp_ge C dX10_cheapest_151 (tgt := 158) (by decide) (fun c7 => ?_) (fun c7 => ?_)
            · exact G_sub (w_m_X10_cheapest_158 C q hA (m_X10_cheapest_95 N fu) ih N x2 x3 x5 x6 x7 x8 x9 x10 q3.1 q4.1 q4.2) [2, 3, 4, 5, 6, 7, 8, 9, 10, 1, 0] rfl
            · exact G_sub (w_m_X10_cheapest_154 C q hA (m_X10_cheapest_95 N fu) ih N x2 x3 x5 x6 x7 x8 x9 x10 q3.1 q4.1 q4.2) [2, 3, 4, 5, 6, 7, 8, 9, 10, 1, 0] rfl
          · exact G_sub (w_m_X10_cheapest_158 C q hA (m_X10_cheapest_95 N fu) ih N x2 x3 x5 x6 x7 x8 x9 x10 q3.1 q4.1 q4.2) [2, 3, 4, 5, 6, 7, 8, 9, 10, 1, 0] rfl
      · refine G_goto C dX10_cheapest_112 (tgt := 200) (by decide) ?_
        exact w_m_X10_cheapest_200 C q hA (m_X10_cheapest_95 N fu) ih N x2 x3 x5 x6 x7 x8 x9 x10 σ
set_option maxHeartbeats 4000000 in
set_option maxRecDepth 100000 in
theorem w_m_X10_cheapest_0 {X : g_X (Int32 × g_St)} (C : g_C X cX10_cheapest RX10 wsX10_cheapest rm_m_X10_cheapest 14) (q : g_qI X) (hA : g_ag L_m_X10_cheapest (g_n X) (g_T X)) (N : Nat) (x1 : Int32) (x2 : Int32) (x3 : Int64) (σ : g_St) : G X 0 [(0, .ref (g_b X + 0)), (1, .int x1), (2, .int x2), (3, .long x3)] [] σ (m_X10_cheapest N x1 x2 x3 σ) := by
  have t0 := g_ag_at hA (c := 0) rfl tc0
  have t13 := g_ag_at hA (c := 13) rfl tc13
  have t16 := g_ag_at hA (c := 16) rfl tc16
  have t18 := g_ag_at hA (c := 18) rfl tc18
  have t59 := g_ag_at hA (c := 59) rfl tc59
  unfold m_X10_cheapest
  refine G_iload_n C dX10_cheapest_0 rfl 2 rfl ?_
  refine G_if_gt C dX10_cheapest_1 (tgt := 6) (by decide) (fun c1 => ?_) (fun c1 => ?_)
  · refine G_aload_n C dX10_cheapest_6 rfl 0 rfl ?_
    refine G_getR C f_X10_cheapest_51 t0 rfl dX10_cheapest_7 ?_
    refine G_aload_n C dX10_cheapest_10 rfl 0 rfl ?_
    refine G_getR C f_X10_cheapest_23 t0 rfl dX10_cheapest_11 ?_
    refine G_aload_n C dX10_cheapest_14 rfl 0 rfl ?_
    refine G_getR C f_X10_cheapest_30 t0 rfl dX10_cheapest_15 ?_
    refine G_getI C f_X10_cheapest_140 t16 rfl dX10_cheapest_18 ?_
    refine G_aload_n C dX10_cheapest_21 rfl 0 rfl ?_
    refine G_getR C f_X10_cheapest_23 t0 rfl dX10_cheapest_22 ?_
    refine G_getI C f_X10_cheapest_133 t13 rfl dX10_cheapest_25 ?_
    refine G_aload_n C dX10_cheapest_28 rfl 0 rfl ?_
    refine G_getR C f_X10_cheapest_30 t0 rfl dX10_cheapest_29 ?_
    refine G_getI C f_X10_cheapest_130 t16 rfl dX10_cheapest_32 ?_
    refine G_isub C dX10_cheapest_35 ?_
    refine G_callV (rest := []) (fun a ha => g_runV C (nargs := 3) (As := [.ref (g_b X + 13), .int (σ.1 16 5), .int ((σ.1 13 4) - (σ.1 16 7))]) (rest := []) gX10_cheapest_X2_begin rfl (by decide +kernel) rfl t59 rfl rfl rfl rfl dX10_cheapest_36 (k_m_X2_begin X.1.2.1 X.2.1 (g_n X) (g_T X) (g_ag_sub hA (by decide +kernel)) N (σ.1 16 5) ((σ.1 13 4) - (σ.1 16 7)) σ a ha)) (fun σ2 => ?_)
    refine G_aload_n C dX10_cheapest_39 rfl 0 rfl ?_
    refine G_getR C f_X10_cheapest_30 t0 rfl dX10_cheapest_40 ?_
    refine G_iload_n C dX10_cheapest_43 rfl 1 rfl ?_
    refine G_aload_n C dX10_cheapest_44 rfl 0 rfl ?_
    refine G_getR C f_X10_cheapest_23 t0 rfl dX10_cheapest_45 ?_
    refine G_getI C f_X10_cheapest_124 t13 rfl dX10_cheapest_48 ?_
    refine G_callI (rest := []) (fun a ha => g_runV C (nargs := 2) (As := [.int x1, .int (σ2.1 13 3)]) (rest := []) gX10_cheapest_X4_agingFor rfl (by decide +kernel) rfl t16 rfl rfl rfl rfl dX10_cheapest_51 (k_m_X4_agingFor X.1.2.1 X.2.1 (g_n X) (g_T X) (g_ag_sub hA (by decide +kernel)) N x1 (σ2.1 13 3) σ2 a ha)) (fun q3 => ?_)
    refine G_istore C dX10_cheapest_54 rfl (lv' := [(5, .int q3.1), (0, .ref (g_b X + 0)), (1, .int x1), (2, .int x2), (3, .long x3)]) rfl ?_
    refine G_aload_n C dX10_cheapest_56 rfl 1 rfl ?_
    refine G_getR C f_X10_cheapest_30 t0 rfl dX10_cheapest_57 ?_
    refine G_iload_n C dX10_cheapest_60 rfl 2 rfl ?_
    refine G_aload_n C dX10_cheapest_61 rfl 1 rfl ?_
    refine G_getR C f_X10_cheapest_23 t0 rfl dX10_cheapest_62 ?_
    refine G_getI C f_X10_cheapest_124 t13 rfl dX10_cheapest_65 ?_
    refine G_callI (rest := []) (fun a ha => g_runV C (nargs := 2) (As := [.int x1, .int (q3.2.1 13 3)]) (rest := []) gX10_cheapest_X4_forSaleTo rfl (by decide +kernel) rfl t16 rfl rfl rfl rfl dX10_cheapest_68 (k_m_X4_forSaleTo X.1.2.1 X.2.1 (g_n X) (g_T X) (g_ag_sub hA (by decide +kernel)) N x1 (q3.2.1 13 3) q3.2 a ha)) (fun q4 => ?_)
    refine G_istore C dX10_cheapest_71 rfl (lv' := [(6, .int q4.1), (5, .int q3.1), (0, .ref (g_b X + 0)), (1, .int x1), (2, .int x2), (3, .long x3)]) rfl ?_
    refine G_iconst C dX10_cheapest_73 (v := -1) (by decide +kernel) ?_
    refine G_istore C dX10_cheapest_74 rfl (lv' := [(7, .int (-1 : Int32)), (6, .int q4.1), (5, .int q3.1), (0, .ref (g_b X + 0)), (1, .int x1), (2, .int x2), (3, .long x3)]) rfl ?_
    refine G_aload_n C dX10_cheapest_76 rfl 3 rfl ?_
    refine G_getR C f_X10_cheapest_30 t0 rfl dX10_cheapest_77 ?_
    refine G_getR C f_X10_cheapest_168 t16 rfl dX10_cheapest_80 ?_
    refine G_iload_n C dX10_cheapest_83 rfl 4 rfl ?_
    refine G_chk (fun h5 => ?_)
    refine G_ald C t18 h5 dX10_cheapest_84 ?_
    refine G_iconst C dX10_cheapest_85 (v := 1) (by decide +kernel) ?_
    refine G_iadd C dX10_cheapest_86 ?_
    refine G_lti (fun v6 => ?_)
    refine G_istore C dX10_cheapest_87 rfl (lv' := [(8, .int v6), (7, .int (-1 : Int32)), (6, .int q4.1), (5, .int q3.1), (0, .ref (g_b X + 0)), (1, .int x1), (2, .int x2), (3, .long x3)]) rfl ?_
    refine G_iconst C dX10_cheapest_89 (v := 0) (by decide +kernel) ?_
    refine G_istore C dX10_cheapest_90 rfl (lv' := [(9, .int (0 : Int32)), (8, .int v6), (7, .int (-1 : Int32)), (6, .int q4.1), (5, .int q3.1), (0, .ref (g_b X + 0)), (1, .int x1), (2, .int x2), (3, .long x3)]) rfl ?_
    refine G_iconst C dX10_cheapest_92 (v := 0) (by decide +kernel) ?_
    refine G_istore C dX10_cheapest_93 rfl (lv' := [(10, .int (0 : Int32)), (9, .int (0 : Int32)), (8, .int v6), (7, .int (-1 : Int32)), (6, .int q4.1), (5, .int q3.1), (0, .ref (g_b X + 0)), (1, .int x1), (2, .int x2), (3, .long x3)]) rfl ?_
    exact G_sub (w_m_X10_cheapest_95 C q hA N N x2 x3 q3.1 q4.1 (-1 : Int32) v6 (0 : Int32) (0 : Int32) q4.2) [6, 8, 9, 5, 4, 3, 2, 1, 0] rfl
  · refine G_iconst C dX10_cheapest_4 (v := 0) (by decide +kernel) ?_
    exact G_iret C q dX10_cheapest_5
theorem k_m_X10_cheapest (l : Launch) (E : g_E) (n : Nat) (T : Nat → g_Sh) (hA : g_ag L_m_X10_cheapest n T) (N : Nat) (x1 : Int32) (x2 : Int32) (x3 : Int64) (σ : g_St) (a : Int32 × g_St) (h : m_X10_cheapest N x1 x2 x3 σ = some a) : Met l yX10_cheapest wsX10_cheapest rm_m_X10_cheapest (g_Pc E n T [.ref (E.2.1 + 0), .int x1, .int x2, .long x3] σ) (g_Qi E n T a) 0 0 (g_A E) :=
  g_metI (by decide +kernel) rfl rfl (Nat.le_of_ble_eq_true rfl) (fun M Qf C q => by rw [← h]; exact w_m_X10_cheapest_0 C q hA N x1 x2 x3 σ)
