def L_m_X11_mayWed : List Nat := [77, 79, 81]
abbrev rm_m_X11_mayWed : Room := { frames := 0, cells := 0, slots := 0, locals := 0 }
theorem f_X11_mayWed_13 : g_Fld wsX11_mayWed RX11 13 11 1 := ⟨RX11, TX11, 27, rfl, by decide +kernel, by decide, by decide +kernel⟩
theorem f_X11_mayWed_19 : g_Fld wsX11_mayWed RX11 19 11 7 := ⟨RX11, TX11, 27, rfl, by decide +kernel, by decide, by decide +kernel⟩
set_option maxHeartbeats 4000000 in
set_option maxRecDepth 100000 in
theorem w_m_X11_mayWed_44 {X : g_X (Int32 × g_St)} (C : g_C X cX11_mayWed RX11 wsX11_mayWed rm_m_X11_mayWed 7) (q : g_qZ X) (hA : g_ag L_m_X11_mayWed (g_n X) (g_T X)) (x3 : Int32) (x4 : Int32) (x5 : Int32) (s0 : Int32) (σ : g_St) : G X 44 [(0, .ref (g_b X + 77)), (3, .int x3), (4, .int x4), (5, .int x5)] [.int s0] σ (m_X11_mayWed_44 x3 x4 x5 s0 σ) := by
  have t77 := g_ag_at hA (c := 77) rfl tc77
  have t79 := g_ag_at hA (c := 79) rfl tc79
  unfold m_X11_mayWed_44
  refine G_istore C dX11_mayWed_44 rfl (lv' := [(6, .int s0), (0, .ref (g_b X + 77)), (3, .int x3), (4, .int x4), (5, .int x5)]) rfl ?_
  refine G_iload C dX11_mayWed_46 3 rfl ?_
  refine G_aload_n C dX11_mayWed_48 rfl 1 rfl ?_
  refine G_getR C f_X11_mayWed_13 t77 rfl dX11_mayWed_49 ?_
  refine G_bipush C dX11_mayWed_52 (v := 7) (by decide +kernel) ?_
  refine G_aldk C t79 (by decide +kernel) (k := 7) rfl dX11_mayWed_54 ?_
  refine G_icmp_lt C dX11_mayWed_55 (tgt := 80) (by decide) (fun c1 => ?_) (fun c1 => ?_)
  · refine G_iconst C dX11_mayWed_80 (v := 0) (by decide +kernel) ?_
    exact G_zret C q (by decide) dX11_mayWed_81
  · refine G_iload C dX11_mayWed_58 4 rfl ?_
    refine G_aload_n C dX11_mayWed_60 rfl 1 rfl ?_
    refine G_getR C f_X11_mayWed_13 t77 rfl dX11_mayWed_61 ?_
    refine G_bipush C dX11_mayWed_64 (v := 7) (by decide +kernel) ?_
    refine G_aldk C t79 (by decide +kernel) (k := 7) rfl dX11_mayWed_66 ?_
    refine G_icmp_lt C dX11_mayWed_67 (tgt := 80) (by decide) (fun c2 => ?_) (fun c2 => ?_)
    · refine G_iconst C dX11_mayWed_80 (v := 0) (by decide +kernel) ?_
      exact G_zret C q (by decide) dX11_mayWed_81
    · refine G_iload C dX11_mayWed_70 0 rfl ?_
      refine G_iload_n C dX11_mayWed_72 rfl 2 rfl ?_
      refine G_icmp_gt C dX11_mayWed_73 (tgt := 80) (by decide) (fun c3 => ?_) (fun c3 => ?_)
      · refine G_iconst C dX11_mayWed_80 (v := 0) (by decide +kernel) ?_
        exact G_zret C q (by decide) dX11_mayWed_81
      · refine G_iconst C dX11_mayWed_76 (v := 1) (by decide +kernel) ?_
        refine G_goto C dX11_mayWed_77 (tgt := 81) (by decide) ?_
        exact G_zret C q (by decide) dX11_mayWed_81
set_option maxHeartbeats 4000000 in
set_option maxRecDepth 100000 in
theorem w_m_X11_mayWed_0 {X : g_X (Int32 × g_St)} (C : g_C X cX11_mayWed RX11 wsX11_mayWed rm_m_X11_mayWed 7) (q : g_qZ X) (hA : g_ag L_m_X11_mayWed (g_n X) (g_T X)) (x1 : Int32) (x2 : Int32) (x3 : Int32) (σ : g_St) : G X 0 [(0, .ref (g_b X + 77)), (1, .int x1), (2, .int x2), (3, .int x3)] [] σ (m_X11_mayWed x1 x2 x3 σ) := by
  have t77 := g_ag_at hA (c := 77) rfl tc77
  have t81 := g_ag_at hA (c := 81) rfl tc81
  unfold m_X11_mayWed
  refine G_aload_n C dX11_mayWed_0 rfl 0 rfl ?_
  refine G_getR C f_X11_mayWed_19 t77 rfl dX11_mayWed_1 ?_
  refine G_iconst C dX11_mayWed_4 (v := 3) (by decide +kernel) ?_
  refine G_iconst C dX11_mayWed_5 (v := 2) (by decide +kernel) ?_
  refine G_iload_n C dX11_mayWed_6 rfl 1 rfl ?_
  refine G_imul C dX11_mayWed_7 ?_
  refine G_iadd C dX11_mayWed_8 ?_
  refine G_chk (fun h1 => ?_)
  refine G_ald C t81 h1 dX11_mayWed_9 ?_
  refine G_lti (fun v2 => ?_)
  refine G_istore C dX11_mayWed_10 rfl (lv' := [(4, .int v2), (0, .ref (g_b X + 77)), (1, .int x1), (2, .int x2), (3, .int x3)]) rfl ?_
  refine G_aload_n C dX11_mayWed_12 rfl 1 rfl ?_
  refine G_getR C f_X11_mayWed_19 t77 rfl dX11_mayWed_13 ?_
  refine G_iconst C dX11_mayWed_16 (v := 3) (by decide +kernel) ?_
  refine G_iconst C dX11_mayWed_17 (v := 2) (by decide +kernel) ?_
  refine G_iload_n C dX11_mayWed_18 rfl 3 rfl ?_
  refine G_imul C dX11_mayWed_19 ?_
  refine G_iadd C dX11_mayWed_20 ?_
  refine G_chk (fun h3 => ?_)
  refine G_ald C t81 h3 dX11_mayWed_21 ?_
  refine G_lti (fun v4 => ?_)
  refine G_istore C dX11_mayWed_22 rfl (lv' := [(5, .int v4), (4, .int v2), (0, .ref (g_b X + 77)), (1, .int x1), (2, .int x2), (3, .int x3)]) rfl ?_
  refine G_iload C dX11_mayWed_24 1 rfl ?_
  refine G_iload C dX11_mayWed_26 0 rfl ?_
  refine G_icmp_ge C dX11_mayWed_28 (tgt := 39) (by decide) (fun c5 => ?_) (fun c5 => ?_)
  · refine G_iload C dX11_mayWed_39 1 rfl ?_
    refine G_iload C dX11_mayWed_41 0 rfl ?_
    refine G_isub C dX11_mayWed_43 ?_
    exact G_sub (w_m_X11_mayWed_44 C q hA x3 v2 v4 (v2 - v4) σ) [2, 5, 1, 0] rfl
  · refine G_iload C dX11_mayWed_31 0 rfl ?_
    refine G_iload C dX11_mayWed_33 1 rfl ?_
    refine G_isub C dX11_mayWed_35 ?_
    refine G_goto C dX11_mayWed_36 (tgt := 44) (by decide) ?_
    exact G_sub (w_m_X11_mayWed_44 C q hA x3 v2 v4 (v4 - v2) σ) [2, 5, 1, 0] rfl
theorem k_m_X11_mayWed (l : Launch) (E : g_E) (n : Nat) (T : Nat → g_Sh) (hA : g_ag L_m_X11_mayWed n T) (x1 : Int32) (x2 : Int32) (x3 : Int32) (σ : g_St) (a : Int32 × g_St) (h : m_X11_mayWed x1 x2 x3 σ = some a) : Met l yX11_mayWed wsX11_mayWed rm_m_X11_mayWed (g_Pc E n T [.ref (E.2.1 + 77), .int x1, .int x2, .int x3] σ) (g_Qi E n T a) 0 0 (g_A E) :=
  g_metZ (by decide +kernel) rfl rfl (Nat.le_of_ble_eq_true rfl) (fun M Qf C q => by rw [← h]; exact w_m_X11_mayWed_0 C q hA x1 x2 x3 σ)
def L_m_X11_mostPairs : List Nat := [77, 79, 81, 87, 88]
abbrev rm_m_X11_mostPairs : Room := { frames := 1, cells := 0, slots := 0, locals := 26 }
theorem f_X11_mostPairs_13 : g_Fld wsX11_mostPairs RX11 13 11 1 := ⟨RX11, TX11, 27, rfl, by decide +kernel, by decide, by decide +kernel⟩
theorem f_X11_mostPairs_37 : g_Fld wsX11_mostPairs RX11 37 11 15 := ⟨RX11, TX11, 27, rfl, by decide +kernel, by decide, by decide +kernel⟩
theorem f_X11_mostPairs_40 : g_Fld wsX11_mostPairs RX11 40 11 16 := ⟨RX11, TX11, 27, rfl, by decide +kernel, by decide, by decide +kernel⟩
set_option maxHeartbeats 4000000 in
set_option maxRecDepth 100000 in
theorem w_m_X11_mostPairs_284 {X : g_X (Int32 × g_St)} (C : g_C X cX11_mostPairs RX11 wsX11_mostPairs rm_m_X11_mostPairs 10) (q : g_qI X) (hA : g_ag L_m_X11_mostPairs (g_n X) (g_T X)) (k35 : Int32 → Int32 → Int32 → Int32 → Int32 → g_St → Option (Int32 × g_St)) (hk35 : ∀ (x1 : Int32) (x2 : Int32) (x3 : Int32) (x4 : Int32) (x5 : Int32) (σ : g_St), G X 35 [(0, .ref (g_b X + 77)), (1, .int x1), (2, .int x2), (3, .int x3), (4, .int x4), (5, .int x5)] [] σ (k35 x1 x2 x3 x4 x5 σ)) (N : Nat) (x1 : Int32) (x2 : Int32) (x3 : Int32) (x4 : Int32) (x5 : Int32) (σ : g_St) : G X 284 [(0, .ref (g_b X + 77)), (1, .int x1), (2, .int x2), (3, .int x3), (4, .int x4), (5, .int x5)] [] σ (m_X11_mostPairs_284 k35 N x1 x2 x3 x4 x5 σ) := by
  unfold m_X11_mostPairs_284
  refine G_iinc C dX11_mostPairs_284 5 rfl (v := (x5 + (1 : Int32))) (by rfl) rfl (lv' := [(5, .int (x5 + (1 : Int32))), (0, .ref (g_b X + 77)), (1, .int x1), (2, .int x2), (3, .int x3), (4, .int x4)]) rfl ?_
  refine G_ltv (fun v => [(5, .int v), (0, .ref (g_b X + 77)), (1, .int x1), (2, .int x2), (3, .int x3), (4, .int x4)]) (fun v1 => ?_)
  refine G_goto C dX11_mostPairs_287 (tgt := 35) (by decide) ?_
  exact G_sub (hk35 x1 x2 x3 x4 v1 σ) [1, 2, 3, 4, 5, 0] rfl
set_option maxHeartbeats 4000000 in
set_option maxRecDepth 100000 in
theorem w_m_X11_mostPairs_258 {X : g_X (Int32 × g_St)} (C : g_C X cX11_mostPairs RX11 wsX11_mostPairs rm_m_X11_mostPairs 10) (q : g_qI X) (hA : g_ag L_m_X11_mostPairs (g_n X) (g_T X)) (k35 : Int32 → Int32 → Int32 → Int32 → Int32 → g_St → Option (Int32 × g_St)) (hk35 : ∀ (x1 : Int32) (x2 : Int32) (x3 : Int32) (x4 : Int32) (x5 : Int32) (σ : g_St), G X 35 [(0, .ref (g_b X + 77)), (1, .int x1), (2, .int x2), (3, .int x3), (4, .int x4), (5, .int x5)] [] σ (k35 x1 x2 x3 x4 x5 σ)) (N : Nat) : ∀ (fu : Nat) (x1 : Int32) (x2 : Int32) (x3 : Int32) (x4 : Int32) (x5 : Int32) (x9 : Int32) (σ : g_St), G X 258 [(0, .ref (g_b X + 77)), (1, .int x1), (2, .int x2), (3, .int x3), (4, .int x4), (5, .int x5), (9, .int x9)] [] σ (m_X11_mostPairs_258 k35 N fu x1 x2 x3 x4 x5 x9 σ) := by
  have t77 := g_ag_at hA (c := 77) rfl tc77
  have t87 := g_ag_at hA (c := 87) rfl tc87
  have t88 := g_ag_at hA (c := 88) rfl tc88
  intro fu
  induction fu with
  | zero => intro x1 x2 x3 x4 x5 x9 σ; exact G_none
  | succ fu ih =>
    intro x1 x2 x3 x4 x5 x9 σ
    unfold m_X11_mostPairs_258
    refine G_iload C dX11_mostPairs_258 6 rfl ?_
    refine G_iload_n C dX11_mostPairs_260 rfl 2 rfl ?_
    refine G_icmp_ge C dX11_mostPairs_261 (tgt := 284) (by decide) (fun c1 => ?_) (fun c1 => ?_)
    · exact G_sub (w_m_X11_mostPairs_284 C q hA k35 hk35 N x1 x2 x3 x4 x5 σ) [0, 1, 2, 3, 4, 5] rfl
    · refine G_aload_n C dX11_mostPairs_264 rfl 0 rfl ?_
      refine G_getR C f_X11_mostPairs_40 t77 rfl dX11_mostPairs_265 ?_
      refine G_iload C dX11_mostPairs_268 6 rfl ?_
      refine G_aload_n C dX11_mostPairs_270 rfl 0 rfl ?_
      refine G_getR C f_X11_mostPairs_37 t77 rfl dX11_mostPairs_271 ?_
      refine G_iload C dX11_mostPairs_274 6 rfl ?_
      refine G_chk (fun h2 => ?_)
      refine G_ald C t87 h2 dX11_mostPairs_276 ?_
      refine G_chk (fun h3 => ?_)
      refine G_ast C t88 h3 dX11_mostPairs_277 ?_
      refine G_lts (fun σ4 => ?_)
      refine G_iinc C dX11_mostPairs_278 6 rfl (v := (x9 + (1 : Int32))) (by rfl) rfl (lv' := [(9, .int (x9 + (1 : Int32))), (0, .ref (g_b X + 77)), (1, .int x1), (2, .int x2), (3, .int x3), (4, .int x4), (5, .int x5)]) rfl ?_
      refine G_ltv (fun v => [(9, .int v), (0, .ref (g_b X + 77)), (1, .int x1), (2, .int x2), (3, .int x3), (4, .int x4), (5, .int x5)]) (fun v5 => ?_)
      refine G_goto C dX11_mostPairs_281 (tgt := 258) (by decide) ?_
      exact G_sub (ih x1 x2 x3 x4 x5 v5 σ4) [1, 2, 3, 4, 5, 6, 0] rfl
set_option maxHeartbeats 4000000 in
set_option maxRecDepth 100000 in
theorem w_m_X11_mostPairs_239 {X : g_X (Int32 × g_St)} (C : g_C X cX11_mostPairs RX11 wsX11_mostPairs rm_m_X11_mostPairs 10) (q : g_qI X) (hA : g_ag L_m_X11_mostPairs (g_n X) (g_T X)) (k35 : Int32 → Int32 → Int32 → Int32 → Int32 → g_St → Option (Int32 × g_St)) (hk35 : ∀ (x1 : Int32) (x2 : Int32) (x3 : Int32) (x4 : Int32) (x5 : Int32) (σ : g_St), G X 35 [(0, .ref (g_b X + 77)), (1, .int x1), (2, .int x2), (3, .int x3), (4, .int x4), (5, .int x5)] [] σ (k35 x1 x2 x3 x4 x5 σ)) (N : Nat) (x1 : Int32) (x2 : Int32) (x3 : Int32) (x4 : Int32) (x5 : Int32) (x7 : Int32) (x8 : Int32) (σ : g_St) : G X 239 [(0, .ref (g_b X + 77)), (1, .int x1), (2, .int x2), (3, .int x3), (4, .int x4), (5, .int x5), (7, .int x7), (8, .int x8)] [] σ (m_X11_mostPairs_239 k35 N x1 x2 x3 x4 x5 x7 x8 σ) := by
  unfold m_X11_mostPairs_239
  refine G_iload C dX11_mostPairs_239 7 rfl ?_
  refine G_if_eq C dX11_mostPairs_241 (tgt := 284) (by decide) (fun c1 => ?_) (fun c1 => ?_)
  · exact G_sub (w_m_X11_mostPairs_284 C q hA k35 hk35 N x1 x2 x3 x4 x5 σ) [0, 1, 2, 3, 4, 5] rfl
  · refine G_iload C dX11_mostPairs_244 6 rfl ?_
    refine G_iload C dX11_mostPairs_246 4 rfl ?_
    refine G_icmp_le C dX11_mostPairs_248 (tgt := 284) (by decide) (fun c2 => ?_) (fun c2 => ?_)
    · exact G_sub (w_m_X11_mostPairs_284 C q hA k35 hk35 N x1 x2 x3 x4 x5 σ) [0, 1, 2, 3, 4, 5] rfl
    · refine G_iload C dX11_mostPairs_251 6 rfl ?_
      refine G_istore C dX11_mostPairs_253 rfl (lv' := [(4, .int x7), (0, .ref (g_b X + 77)), (1, .int x1), (2, .int x2), (3, .int x3), (5, .int x5), (7, .int x7), (8, .int x8)]) rfl ?_
      refine G_iconst C dX11_mostPairs_255 (v := 0) (by decide +kernel) ?_
      refine G_istore C dX11_mostPairs_256 rfl (lv' := [(9, .int (0 : Int32)), (4, .int x7), (0, .ref (g_b X + 77)), (1, .int x1), (2, .int x2), (3, .int x3), (5, .int x5), (7, .int x7), (8, .int x8)]) rfl ?_
      exact G_sub (w_m_X11_mostPairs_258 C q hA k35 hk35 N N x1 x2 x3 x7 x5 (0 : Int32) σ) [2, 3, 4, 5, 1, 6, 0] rfl
set_option maxHeartbeats 4000000 in
set_option maxRecDepth 100000 in
theorem w_m_X11_mostPairs_231 {X : g_X (Int32 × g_St)} (C : g_C X cX11_mostPairs RX11 wsX11_mostPairs rm_m_X11_mostPairs 10) (q : g_qI X) (hA : g_ag L_m_X11_mostPairs (g_n X) (g_T X)) (k35 : Int32 → Int32 → Int32 → Int32 → Int32 → g_St → Option (Int32 × g_St)) (hk35 : ∀ (x1 : Int32) (x2 : Int32) (x3 : Int32) (x4 : Int32) (x5 : Int32) (σ : g_St), G X 35 [(0, .ref (g_b X + 77)), (1, .int x1), (2, .int x2), (3, .int x3), (4, .int x4), (5, .int x5)] [] σ (k35 x1 x2 x3 x4 x5 σ)) (k187 : Int32 → Int32 → Int32 → Int32 → Int32 → Int32 → Int32 → Int32 → g_St → Option (Int32 × g_St)) (hk187 : ∀ (x1 : Int32) (x2 : Int32) (x3 : Int32) (x4 : Int32) (x5 : Int32) (x7 : Int32) (x8 : Int32) (x9 : Int32) (σ : g_St), G X 187 [(0, .ref (g_b X + 77)), (1, .int x1), (2, .int x2), (3, .int x3), (4, .int x4), (5, .int x5), (7, .int x7), (8, .int x8), (9, .int x9)] [] σ (k187 x1 x2 x3 x4 x5 x7 x8 x9 σ)) (N : Nat) (x1 : Int32) (x2 : Int32) (x3 : Int32) (x4 : Int32) (x5 : Int32) (x7 : Int32) (x9 : Int32) (s0 : Int32) (σ : g_St) : G X 231 [(0, .ref (g_b X + 77)), (1, .int x1), (2, .int x2), (3, .int x3), (4, .int x4), (5, .int x5), (7, .int x7), (9, .int x9)] [.int s0] σ (m_X11_mostPairs_231 k35 k187 N x1 x2 x3 x4 x5 x7 x9 s0 σ) := by
  unfold m_X11_mostPairs_231
  refine G_istore C dX11_mostPairs_231 rfl (lv' := [(8, .int s0), (0, .ref (g_b X + 77)), (1, .int x1), (2, .int x2), (3, .int x3), (4, .int x4), (5, .int x5), (7, .int x7), (9, .int x9)]) rfl ?_
  refine G_iinc C dX11_mostPairs_233 8 rfl (v := (x9 + (1 : Int32))) (by rfl) rfl (lv' := [(9, .int (x9 + (1 : Int32))), (8, .int s0), (0, .ref (g_b X + 77)), (1, .int x1), (2, .int x2), (3, .int x3), (4, .int x4), (5, .int x5), (7, .int x7)]) rfl ?_
  refine G_ltv (fun v => [(9, .int v), (8, .int s0), (0, .ref (g_b X + 77)), (1, .int x1), (2, .int x2), (3, .int x3), (4, .int x4), (5, .int x5), (7, .int x7)]) (fun v1 => ?_)
  refine G_goto C dX11_mostPairs_236 (tgt := 187) (by decide) ?_
  exact G_sub (hk187 x1 x2 x3 x4 x5 x7 s0 v1 σ) [2, 3, 4, 5, 6, 7, 8, 1, 0] rfl
set_option maxHeartbeats 4000000 in
set_option maxRecDepth 100000 in
theorem w_m_X11_mostPairs_226 {X : g_X (Int32 × g_St)} (C : g_C X cX11_mostPairs RX11 wsX11_mostPairs rm_m_X11_mostPairs 10) (q : g_qI X) (hA : g_ag L_m_X11_mostPairs (g_n X) (g_T X)) (k35 : Int32 → Int32 → Int32 → Int32 → Int32 → g_St → Option (Int32 × g_St)) (hk35 : ∀ (x1 : Int32) (x2 : Int32) (x3 : Int32) (x4 : Int32) (x5 : Int32) (σ : g_St), G X 35 [(0, .ref (g_b X + 77)), (1, .int x1), (2, .int x2), (3, .int x3), (4, .int x4), (5, .int x5)] [] σ (k35 x1 x2 x3 x4 x5 σ)) (k187 : Int32 → Int32 → Int32 → Int32 → Int32 → Int32 → Int32 → Int32 → g_St → Option (Int32 × g_St)) (hk187 : ∀ (x1 : Int32) (x2 : Int32) (x3 : Int32) (x4 : Int32) (x5 : Int32) (x7 : Int32) (x8 : Int32) (x9 : Int32) (σ : g_St), G X 187 [(0, .ref (g_b X + 77)), (1, .int x1), (2, .int x2), (3, .int x3), (4, .int x4), (5, .int x5), (7, .int x7), (8, .int x8), (9, .int x9)] [] σ (k187 x1 x2 x3 x4 x5 x7 x8 x9 σ)) (N : Nat) (x1 : Int32) (x2 : Int32) (x3 : Int32) (x4 : Int32) (x5 : Int32) (x7 : Int32) (x9 : Int32) (σ : g_St) : G X 226 [(0, .ref (g_b X + 77)), (1, .int x1), (2, .int x2), (3, .int x3), (4, .int x4), (5, .int x5), (7, .int x7), (9, .int x9)] [] σ (m_X11_mostPairs_226 k35 k187 N x1 x2 x3 x4 x5 x7 x9 σ) := by
  unfold m_X11_mostPairs_226
  refine G_iconst C dX11_mostPairs_226 (v := 1) (by decide +kernel) ?_
  refine G_goto C dX11_mostPairs_227 (tgt := 231) (by decide) ?_
  exact w_m_X11_mostPairs_231 C q hA k35 hk35 k187 hk187 N x1 x2 x3 x4 x5 x7 x9 (1 : Int32) σ
set_option maxHeartbeats 4000000 in
set_option maxRecDepth 100000 in
theorem w_m_X11_mostPairs_187 {X : g_X (Int32 × g_St)} (C : g_C X cX11_mostPairs RX11 wsX11_mostPairs rm_m_X11_mostPairs 10) (q : g_qI X) (hA : g_ag L_m_X11_mostPairs (g_n X) (g_T X)) (k35 : Int32 → Int32 → Int32 → Int32 → Int32 → g_St → Option (Int32 × g_St)) (hk35 : ∀ (x1 : Int32) (x2 : Int32) (x3 : Int32) (x4 : Int32) (x5 : Int32) (σ : g_St), G X 35 [(0, .ref (g_b X + 77)), (1, .int x1), (2, .int x2), (3, .int x3), (4, .int x4), (5, .int x5)] [] σ (k35 x1 x2 x3 x4 x5 σ)) (N : Nat) : ∀ (fu : Nat) (x1 : Int32) (x2 : Int32) (x3 : Int32) (x4 : Int32) (x5 : Int32) (x7 : Int32) (x8 : Int32) (x9 : Int32) (σ : g_St), G X 187 [(0, .ref (g_b X + 77)), (1, .int x1), (2, .int x2), (3, .int x3), (4, .int x4), (5, .int x5), (7, .int x7), (8, .int x8), (9, .int x9)] [] σ (m_X11_mostPairs_187 k35 N fu x1 x2 x3 x4 x5 x7 x8 x9 σ) := by
  have t77 := g_ag_at hA (c := 77) rfl tc77
  have t87 := g_ag_at hA (c := 87) rfl tc87
  intro fu
  induction fu with
  | zero => intro x1 x2 x3 x4 x5 x7 x8 x9 σ; exact G_none
  | succ fu ih =>
    intro x1 x2 x3 x4 x5 x7 x8 x9 σ
    unfold m_X11_mostPairs_187
    refine G_iload C dX11_mostPairs_187 8 rfl ?_
    refine G_iload_n C dX11_mostPairs_189 rfl 2 rfl ?_
    refine G_icmp_ge C dX11_mostPairs_190 (tgt := 239) (by decide) (fun c1 => ?_) (fun c1 => ?_)
    · exact G_sub (w_m_X11_mostPairs_239 C q hA k35 hk35 N x1 x2 x3 x4 x5 x7 x8 σ) [0, 1, 2, 3, 4, 5, 6, 7] rfl
    · refine G_iload C dX11_mostPairs_193 7 rfl ?_
      refine G_if_eq C dX11_mostPairs_195 (tgt := 239) (by decide) (fun c2 => ?_) (fun c2 => ?_)
      · exact G_sub (w_m_X11_mostPairs_239 C q hA k35 hk35 N x1 x2 x3 x4 x5 x7 x8 σ) [0, 1, 2, 3, 4, 5, 6, 7] rfl
      · refine G_aload_n C dX11_mostPairs_198 rfl 0 rfl ?_
        refine G_getR C f_X11_mostPairs_37 t77 rfl dX11_mostPairs_199 ?_
        refine G_iload C dX11_mostPairs_202 8 rfl ?_
        refine G_chk (fun h3 => ?_)
        refine G_ald C t87 h3 dX11_mostPairs_204 ?_
        refine G_iconst C dX11_mostPairs_205 (v := -1) (by decide +kernel) ?_
        refine G_icmp_eq C dX11_mostPairs_206 (tgt := 226) (by decide) (fun c4 => ?_) (fun c4 => ?_)
        · exact G_sub (w_m_X11_mostPairs_226 C q hA k35 hk35 (m_X11_mostPairs_187 k35 N fu) ih N x1 x2 x3 x4 x5 x7 x9 σ) [0, 1, 2, 3, 4, 5, 6, 8] rfl
        · refine G_aload_n C dX11_mostPairs_209 rfl 0 rfl ?_
          refine G_getR C f_X11_mostPairs_37 t77 rfl dX11_mostPairs_210 ?_
          refine G_aload_n C dX11_mostPairs_213 rfl 0 rfl ?_
          refine G_getR C f_X11_mostPairs_37 t77 rfl dX11_mostPairs_214 ?_
          refine G_iload C dX11_mostPairs_217 8 rfl ?_
          refine G_chk (fun h5 => ?_)
          refine G_ald C t87 h5 dX11_mostPairs_219 ?_
          refine G_chk (fun h6 => ?_)
          refine G_ald C t87 h6 dX11_mostPairs_220 ?_
          refine G_iload C dX11_mostPairs_221 8 rfl ?_
          refine G_icmp_ne C dX11_mostPairs_223 (tgt := 230) (by decide) (fun c7 => ?_) (fun c7 => ?_)
          · exact G_sub (w_m_X11_mostPairs_226 C q hA k35 hk35 (m_X11_mostPairs_187 k35 N fu) ih N x1 x2 x3 x4 x5 x7 x9 σ) [0, 1, 2, 3, 4, 5, 6, 8] rfl
          · refine G_iconst C dX11_mostPairs_230 (v := 0) (by decide +kernel) ?_
            exact G_sub (w_m_X11_mostPairs_231 C q hA k35 hk35 (m_X11_mostPairs_187 k35 N fu) ih N x1 x2 x3 x4 x5 x7 x9 (0 : Int32) σ) [0, 1, 2, 3, 4, 5, 6, 8] rfl
set_option maxHeartbeats 4000000 in
set_option maxRecDepth 100000 in
theorem w_m_X11_mostPairs_175 {X : g_X (Int32 × g_St)} (C : g_C X cX11_mostPairs RX11 wsX11_mostPairs rm_m_X11_mostPairs 10) (q : g_qI X) (hA : g_ag L_m_X11_mostPairs (g_n X) (g_T X)) (k35 : Int32 → Int32 → Int32 → Int32 → Int32 → g_St → Option (Int32 × g_St)) (hk35 : ∀ (x1 : Int32) (x2 : Int32) (x3 : Int32) (x4 : Int32) (x5 : Int32) (σ : g_St), G X 35 [(0, .ref (g_b X + 77)), (1, .int x1), (2, .int x2), (3, .int x3), (4, .int x4), (5, .int x5)] [] σ (k35 x1 x2 x3 x4 x5 σ)) (k56 : Int32 → Int32 → Int32 → Int32 → Int32 → Int32 → Int32 → Int32 → Int32 → g_St → Option (Int32 × g_St)) (hk56 : ∀ (x1 : Int32) (x2 : Int32) (x3 : Int32) (x4 : Int32) (x5 : Int32) (x6 : Int32) (x7 : Int32) (x8 : Int32) (x9 : Int32) (σ : g_St), G X 56 [(0, .ref (g_b X + 77)), (1, .int x1), (2, .int x2), (3, .int x3), (4, .int x4), (5, .int x5), (6, .int x6), (7, .int x7), (8, .int x8), (9, .int x9)] [] σ (k56 x1 x2 x3 x4 x5 x6 x7 x8 x9 σ)) (N : Nat) (x1 : Int32) (x2 : Int32) (x3 : Int32) (x4 : Int32) (x5 : Int32) (x6 : Int32) (x8 : Int32) (x9 : Int32) (s0 : Int32) (s1 : Int32) (σ : g_St) : G X 175 [(0, .ref (g_b X + 77)), (1, .int x1), (2, .int x2), (3, .int x3), (4, .int x4), (5, .int x5), (6, .int x6), (8, .int x8), (9, .int x9)] [.int s1, .int s0] σ (m_X11_mostPairs_175 k35 k56 N x1 x2 x3 x4 x5 x6 x8 x9 s0 s1 σ) := by
  unfold m_X11_mostPairs_175
  refine G_iadd C dX11_mostPairs_175 ?_
  refine G_lti (fun v1 => ?_)
  refine G_istore C dX11_mostPairs_176 rfl (lv' := [(7, .int v1), (0, .ref (g_b X + 77)), (1, .int x1), (2, .int x2), (3, .int x3), (4, .int x4), (5, .int x5), (6, .int x6), (8, .int x8), (9, .int x9)]) rfl ?_
  refine G_iinc C dX11_mostPairs_178 9 rfl (v := (x9 + (-1 : Int32))) (by rfl) rfl (lv' := [(9, .int (x9 + (-1 : Int32))), (7, .int v1), (0, .ref (g_b X + 77)), (1, .int x1), (2, .int x2), (3, .int x3), (4, .int x4), (5, .int x5), (6, .int x6), (8, .int x8)]) rfl ?_
  refine G_ltv (fun v => [(9, .int v), (7, .int v1), (0, .ref (g_b X + 77)), (1, .int x1), (2, .int x2), (3, .int x3), (4, .int x4), (5, .int x5), (6, .int x6), (8, .int x8)]) (fun v2 => ?_)
  refine G_goto C dX11_mostPairs_181 (tgt := 56) (by decide) ?_
  exact G_sub (hk56 x1 x2 x3 x4 x5 x6 v1 x8 v2 σ) [2, 3, 4, 5, 6, 7, 8, 1, 9, 0] rfl
set_option maxHeartbeats 4000000 in
set_option maxRecDepth 100000 in
theorem w_m_X11_mostPairs_155 {X : g_X (Int32 × g_St)} (C : g_C X cX11_mostPairs RX11 wsX11_mostPairs rm_m_X11_mostPairs 10) (q : g_qI X) (hA : g_ag L_m_X11_mostPairs (g_n X) (g_T X)) (k35 : Int32 → Int32 → Int32 → Int32 → Int32 → g_St → Option (Int32 × g_St)) (hk35 : ∀ (x1 : Int32) (x2 : Int32) (x3 : Int32) (x4 : Int32) (x5 : Int32) (σ : g_St), G X 35 [(0, .ref (g_b X + 77)), (1, .int x1), (2, .int x2), (3, .int x3), (4, .int x4), (5, .int x5)] [] σ (k35 x1 x2 x3 x4 x5 σ)) (k56 : Int32 → Int32 → Int32 → Int32 → Int32 → Int32 → Int32 → Int32 → Int32 → g_St → Option (Int32 × g_St)) (hk56 : ∀ (x1 : Int32) (x2 : Int32) (x3 : Int32) (x4 : Int32) (x5 : Int32) (x6 : Int32) (x7 : Int32) (x8 : Int32) (x9 : Int32) (σ : g_St), G X 56 [(0, .ref (g_b X + 77)), (1, .int x1), (2, .int x2), (3, .int x3), (4, .int x4), (5, .int x5), (6, .int x6), (7, .int x7), (8, .int x8), (9, .int x9)] [] σ (k56 x1 x2 x3 x4 x5 x6 x7 x8 x9 σ)) (N : Nat) (x1 : Int32) (x2 : Int32) (x3 : Int32) (x4 : Int32) (x5 : Int32) (x6 : Int32) (x7 : Int32) (x9 : Int32) (s0 : Int32) (σ : g_St) : G X 155 [(0, .ref (g_b X + 77)), (1, .int x1), (2, .int x2), (3, .int x3), (4, .int x4), (5, .int x5), (6, .int x6), (7, .int x7), (9, .int x9)] [.int s0] σ (m_X11_mostPairs_155 k35 k56 N x1 x2 x3 x4 x5 x6 x7 x9 s0 σ) := by
  have t77 := g_ag_at hA (c := 77) rfl tc77
  have t87 := g_ag_at hA (c := 87) rfl tc87
  unfold m_X11_mostPairs_155
  refine G_istore C dX11_mostPairs_155 rfl (lv' := [(8, .int s0), (0, .ref (g_b X + 77)), (1, .int x1), (2, .int x2), (3, .int x3), (4, .int x4), (5, .int x5), (6, .int x6), (7, .int x7), (9, .int x9)]) rfl ?_
  refine G_iload C dX11_mostPairs_157 8 rfl ?_
  refine G_aload_n C dX11_mostPairs_159 rfl 1 rfl ?_
  refine G_getR C f_X11_mostPairs_37 t77 rfl dX11_mostPairs_160 ?_
  refine G_iload C dX11_mostPairs_163 9 rfl ?_
  refine G_chk (fun h1 => ?_)
  refine G_ald C t87 h1 dX11_mostPairs_165 ?_
  refine G_iconst C dX11_mostPairs_166 (v := -1) (by decide +kernel) ?_
  refine G_icmp_ne C dX11_mostPairs_167 (tgt := 174) (by decide) (fun c2 => ?_) (fun c2 => ?_)
  · refine G_iconst C dX11_mostPairs_170 (v := 0) (by decide +kernel) ?_
    refine G_goto C dX11_mostPairs_171 (tgt := 175) (by decide) ?_
    exact G_sub (w_m_X11_mostPairs_175 C q hA k35 hk35 k56 hk56 N x1 x2 x3 x4 x5 x6 s0 x9 x7 (0 : Int32) σ) [1, 2, 3, 4, 5, 6, 7, 0, 9] rfl
  · refine G_iconst C dX11_mostPairs_174 (v := 1) (by decide +kernel) ?_
    exact G_sub (w_m_X11_mostPairs_175 C q hA k35 hk35 k56 hk56 N x1 x2 x3 x4 x5 x6 s0 x9 x7 (1 : Int32) σ) [1, 2, 3, 4, 5, 6, 7, 0, 9] rfl
set_option maxHeartbeats 4000000 in
set_option maxRecDepth 100000 in
theorem w_m_X11_mostPairs_154 {X : g_X (Int32 × g_St)} (C : g_C X cX11_mostPairs RX11 wsX11_mostPairs rm_m_X11_mostPairs 10) (q : g_qI X) (hA : g_ag L_m_X11_mostPairs (g_n X) (g_T X)) (k35 : Int32 → Int32 → Int32 → Int32 → Int32 → g_St → Option (Int32 × g_St)) (hk35 : ∀ (x1 : Int32) (x2 : Int32) (x3 : Int32) (x4 : Int32) (x5 : Int32) (σ : g_St), G X 35 [(0, .ref (g_b X + 77)), (1, .int x1), (2, .int x2), (3, .int x3), (4, .int x4), (5, .int x5)] [] σ (k35 x1 x2 x3 x4 x5 σ)) (k56 : Int32 → Int32 → Int32 → Int32 → Int32 → Int32 → Int32 → Int32 → Int32 → g_St → Option (Int32 × g_St)) (hk56 : ∀ (x1 : Int32) (x2 : Int32) (x3 : Int32) (x4 : Int32) (x5 : Int32) (x6 : Int32) (x7 : Int32) (x8 : Int32) (x9 : Int32) (σ : g_St), G X 56 [(0, .ref (g_b X + 77)), (1, .int x1), (2, .int x2), (3, .int x3), (4, .int x4), (5, .int x5), (6, .int x6), (7, .int x7), (8, .int x8), (9, .int x9)] [] σ (k56 x1 x2 x3 x4 x5 x6 x7 x8 x9 σ)) (N : Nat) (x1 : Int32) (x2 : Int32) (x3 : Int32) (x4 : Int32) (x5 : Int32) (x6 : Int32) (x7 : Int32) (x9 : Int32) (σ : g_St) : G X 154 [(0, .ref (g_b X + 77)), (1, .int x1), (2, .int x2), (3, .int x3), (4, .int x4), (5, .int x5), (6, .int x6), (7, .int x7), (9, .int x9)] [] σ (m_X11_mostPairs_154 k35 k56 N x1 x2 x3 x4 x5 x6 x7 x9 σ) := by
  unfold m_X11_mostPairs_154
  refine G_iconst C dX11_mostPairs_154 (v := 0) (by decide +kernel) ?_
  exact w_m_X11_mostPairs_155 C q hA k35 hk35 k56 hk56 N x1 x2 x3 x4 x5 x6 x7 x9 (0 : Int32) σ
set_option maxHeartbeats 4000000 in
set_option maxRecDepth 100000 in
theorem w_m_X11_mostPairs_150 {X : g_X (Int32 × g_St)} (C : g_C X cX11_mostPairs RX11 wsX11_mostPairs rm_m_X11_mostPairs 10) (q : g_qI X) (hA : g_ag L_m_X11_mostPairs (g_n X) (g_T X)) (k35 : Int32 → Int32 → Int32 → Int32 → Int32 → g_St → Option (Int32 × g_St)) (hk35 : ∀ (x1 : Int32) (x2 : Int32) (x3 : Int32) (x4 : Int32) (x5 : Int32) (σ : g_St), G X 35 [(0, .ref (g_b X + 77)), (1, .int x1), (2, .int x2), (3, .int x3), (4, .int x4), (5, .int x5)] [] σ (k35 x1 x2 x3 x4 x5 σ)) (k56 : Int32 → Int32 → Int32 → Int32 → Int32 → Int32 → Int32 → Int32 → Int32 → g_St → Option (Int32 × g_St)) (hk56 : ∀ (x1 : Int32) (x2 : Int32) (x3 : Int32) (x4 : Int32) (x5 : Int32) (x6 : Int32) (x7 : Int32) (x8 : Int32) (x9 : Int32) (σ : g_St), G X 56 [(0, .ref (g_b X + 77)), (1, .int x1), (2, .int x2), (3, .int x3), (4, .int x4), (5, .int x5), (6, .int x6), (7, .int x7), (8, .int x8), (9, .int x9)] [] σ (k56 x1 x2 x3 x4 x5 x6 x7 x8 x9 σ)) (N : Nat) (x1 : Int32) (x2 : Int32) (x3 : Int32) (x4 : Int32) (x5 : Int32) (x6 : Int32) (x7 : Int32) (x9 : Int32) (σ : g_St) : G X 150 [(0, .ref (g_b X + 77)), (1, .int x1), (2, .int x2), (3, .int x3), (4, .int x4), (5, .int x5), (6, .int x6), (7, .int x7), (9, .int x9)] [] σ (m_X11_mostPairs_150 k35 k56 N x1 x2 x3 x4 x5 x6 x7 x9 σ) := by
  unfold m_X11_mostPairs_150
  refine G_iconst C dX11_mostPairs_150 (v := 1) (by decide +kernel) ?_
  refine G_goto C dX11_mostPairs_151 (tgt := 155) (by decide) ?_
  exact w_m_X11_mostPairs_155 C q hA k35 hk35 k56 hk56 N x1 x2 x3 x4 x5 x6 x7 x9 (1 : Int32) σ
set_option maxHeartbeats 4000000 in
set_option maxRecDepth 100000 in
theorem w_m_X11_mostPairs_86 {X : g_X (Int32 × g_St)} (C : g_C X cX11_mostPairs RX11 wsX11_mostPairs rm_m_X11_mostPairs 10) (q : g_qI X) (hA : g_ag L_m_X11_mostPairs (g_n X) (g_T X)) (k35 : Int32 → Int32 → Int32 → Int32 → Int32 → g_St → Option (Int32 × g_St)) (hk35 : ∀ (x1 : Int32) (x2 : Int32) (x3 : Int32) (x4 : Int32) (x5 : Int32) (σ : g_St), G X 35 [(0, .ref (g_b X + 77)), (1, .int x1), (2, .int x2), (3, .int x3), (4, .int x4), (5, .int x5)] [] σ (k35 x1 x2 x3 x4 x5 σ)) (k56 : Int32 → Int32 → Int32 → Int32 → Int32 → Int32 → Int32 → Int32 → Int32 → g_St → Option (Int32 × g_St)) (hk56 : ∀ (x1 : Int32) (x2 : Int32) (x3 : Int32) (x4 : Int32) (x5 : Int32) (x6 : Int32) (x7 : Int32) (x8 : Int32) (x9 : Int32) (σ : g_St), G X 56 [(0, .ref (g_b X + 77)), (1, .int x1), (2, .int x2), (3, .int x3), (4, .int x4), (5, .int x5), (6, .int x6), (7, .int x7), (8, .int x8), (9, .int x9)] [] σ (k56 x1 x2 x3 x4 x5 x6 x7 x8 x9 σ)) (N : Nat) (x1 : Int32) (x2 : Int32) (x3 : Int32) (x4 : Int32) (x5 : Int32) (x6 : Int32) (x7 : Int32) (x8 : Int32) (x9 : Int32) (s1 : Int32) (s2 : Int32) (σ : g_St) : G X 86 [(0, .ref (g_b X + 77)), (1, .int x1), (2, .int x2), (3, .int x3), (4, .int x4), (5, .int x5), (6, .int x6), (7, .int x7), (8, .int x8), (9, .int x9)] [.int s2, .int s1, .ref (g_b X + 87)] σ (m_X11_mostPairs_86 k35 k56 N x1 x2 x3 x4 x5 x6 x7 x8 x9 s1 s2 σ) := by
  have t77 := g_ag_at hA (c := 77) rfl tc77
  have t87 := g_ag_at hA (c := 87) rfl tc87
  unfold m_X11_mostPairs_86
  refine G_chk (fun h1 => ?_)
  refine G_ast C t87 h1 dX11_mostPairs_86 ?_
  refine G_lts (fun σ2 => ?_)
  refine G_iload C dX11_mostPairs_87 6 rfl ?_
  refine G_bipush C dX11_mostPairs_89 (v := 7) (by decide +kernel) ?_
  refine G_idiv C dX11_mostPairs_91 (by decide) ?_
  refine G_lti (fun v3 => ?_)
  refine G_istore C dX11_mostPairs_92 rfl (lv' := [(6, .int v3), (0, .ref (g_b X + 77)), (1, .int x1), (2, .int x2), (3, .int x3), (4, .int x4), (5, .int x5), (7, .int x7), (8, .int x8), (9, .int x9)]) rfl ?_
  refine G_iload C dX11_mostPairs_94 8 rfl ?_
  refine G_if_eq C dX11_mostPairs_96 (tgt := 154) (by decide) (fun c4 => ?_) (fun c4 => ?_)
  · exact G_sub (w_m_X11_mostPairs_154 C q hA k35 hk35 k56 hk56 N x1 x2 x3 x4 x5 v3 x7 x9 σ2) [1, 2, 3, 4, 5, 6, 0, 7, 9] rfl
  · refine G_aload_n C dX11_mostPairs_99 rfl 1 rfl ?_
    refine G_getR C f_X11_mostPairs_37 t77 rfl dX11_mostPairs_100 ?_
    refine G_iload C dX11_mostPairs_103 9 rfl ?_
    refine G_chk (fun h5 => ?_)
    refine G_ald C t87 h5 dX11_mostPairs_105 ?_
    refine G_iconst C dX11_mostPairs_106 (v := -1) (by decide +kernel) ?_
    refine G_icmp_eq C dX11_mostPairs_107 (tgt := 150) (by decide) (fun c6 => ?_) (fun c6 => ?_)
    · exact G_sub (w_m_X11_mostPairs_150 C q hA k35 hk35 k56 hk56 N x1 x2 x3 x4 x5 v3 x7 x9 σ2) [1, 2, 3, 4, 5, 6, 0, 7, 9] rfl
    · refine G_aload_n C dX11_mostPairs_110 rfl 1 rfl ?_
      refine G_getR C f_X11_mostPairs_37 t77 rfl dX11_mostPairs_111 ?_
      refine G_iload C dX11_mostPairs_114 9 rfl ?_
      refine G_chk (fun h7 => ?_)
      refine G_ald C t87 h7 dX11_mostPairs_116 ?_
      refine G_iload_n C dX11_mostPairs_117 rfl 3 rfl ?_
      refine G_icmp_ge C dX11_mostPairs_118 (tgt := 154) (by decide) (fun c8 => ?_) (fun c8 => ?_)
      · exact G_sub (w_m_X11_mostPairs_154 C q hA k35 hk35 k56 hk56 N x1 x2 x3 x4 x5 v3 x7 x9 σ2) [1, 2, 3, 4, 5, 6, 0, 7, 9] rfl
      · refine G_aload_n C dX11_mostPairs_121 rfl 1 rfl ?_
        refine G_getR C f_X11_mostPairs_37 t77 rfl dX11_mostPairs_122 ?_
        refine G_iload C dX11_mostPairs_125 9 rfl ?_
        refine G_chk (fun h9 => ?_)
        refine G_ald C t87 h9 dX11_mostPairs_127 ?_
        refine G_iload C dX11_mostPairs_128 9 rfl ?_
        refine G_icmp_eq C dX11_mostPairs_130 (tgt := 154) (by decide) (fun c10 => ?_) (fun c10 => ?_)
        · exact G_sub (w_m_X11_mostPairs_154 C q hA k35 hk35 k56 hk56 N x1 x2 x3 x4 x5 v3 x7 x9 σ2) [1, 2, 3, 4, 5, 6, 0, 7, 9] rfl
        · refine G_aload_n C dX11_mostPairs_133 rfl 1 rfl ?_
          refine G_iload C dX11_mostPairs_134 9 rfl ?_
          refine G_aload_n C dX11_mostPairs_136 rfl 1 rfl ?_
          refine G_getR C f_X11_mostPairs_37 t77 rfl dX11_mostPairs_137 ?_
          refine G_iload C dX11_mostPairs_140 9 rfl ?_
          refine G_chk (fun h11 => ?_)
          refine G_ald C t87 h11 dX11_mostPairs_142 ?_
          refine G_iload_n C dX11_mostPairs_143 rfl 2 rfl ?_
          refine G_callI (rest := []) (fun a ha => g_runV C (nargs := 3) (As := [.int x9, .int (σ2.1 87 x9.toNatClampNeg), .int x1]) (rest := []) gX11_mostPairs_X11_mayWed rfl (by decide +kernel) rfl t77 rfl rfl rfl rfl dX11_mostPairs_144 (k_m_X11_mayWed X.1.2.1 X.2.1 (g_n X) (g_T X) (g_ag_sub hA (by decide +kernel)) x9 (σ2.1 87 x9.toNatClampNeg) x1 σ2 a ha)) (fun q12 => ?_)
          refine G_if_eq C dX11_mostPairs_147 (tgt := 154) (by decide) (fun c13 => ?_) (fun c13 => ?_)
          · exact G_sub (w_m_X11_mostPairs_154 C q hA k35 hk35 k56 hk56 N x1 x2 x3 x4 x5 v3 x7 x9 q12.2) [1, 2, 3, 4, 5, 6, 0, 7, 9] rfl
          · exact G_sub (w_m_X11_mostPairs_150 C q hA k35 hk35 k56 hk56 N x1 x2 x3 x4 x5 v3 x7 x9 q12.2) [1, 2, 3, 4, 5, 6, 0, 7, 9] rfl
set_option maxHeartbeats 4000000 in
set_option maxRecDepth 100000 in
theorem w_m_X11_mostPairs_56 {X : g_X (Int32 × g_St)} (C : g_C X cX11_mostPairs RX11 wsX11_mostPairs rm_m_X11_mostPairs 10) (q : g_qI X) (hA : g_ag L_m_X11_mostPairs (g_n X) (g_T X)) (k35 : Int32 → Int32 → Int32 → Int32 → Int32 → g_St → Option (Int32 × g_St)) (hk35 : ∀ (x1 : Int32) (x2 : Int32) (x3 : Int32) (x4 : Int32) (x5 : Int32) (σ : g_St), G X 35 [(0, .ref (g_b X + 77)), (1, .int x1), (2, .int x2), (3, .int x3), (4, .int x4), (5, .int x5)] [] σ (k35 x1 x2 x3 x4 x5 σ)) (N : Nat) : ∀ (fu : Nat) (x1 : Int32) (x2 : Int32) (x3 : Int32) (x4 : Int32) (x5 : Int32) (x6 : Int32) (x7 : Int32) (x8 : Int32) (x9 : Int32) (σ : g_St), G X 56 [(0, .ref (g_b X + 77)), (1, .int x1), (2, .int x2), (3, .int x3), (4, .int x4), (5, .int x5), (6, .int x6), (7, .int x7), (8, .int x8), (9, .int x9)] [] σ (m_X11_mostPairs_56 k35 N fu x1 x2 x3 x4 x5 x6 x7 x8 x9 σ) := by
  have t77 := g_ag_at hA (c := 77) rfl tc77
  intro fu
  induction fu with
  | zero => intro x1 x2 x3 x4 x5 x6 x7 x8 x9 σ; exact G_none
  | succ fu ih =>
    intro x1 x2 x3 x4 x5 x6 x7 x8 x9 σ
    unfold m_X11_mostPairs_56
    refine G_iload C dX11_mostPairs_56 9 rfl ?_
    refine G_if_lt C dX11_mostPairs_58 (tgt := 184) (by decide) (fun c1 => ?_) (fun c1 => ?_)
    · refine G_iconst C dX11_mostPairs_184 (v := 0) (by decide +kernel) ?_
      refine G_istore C dX11_mostPairs_185 rfl (lv' := [(9, .int (0 : Int32)), (0, .ref (g_b X + 77)), (1, .int x1), (2, .int x2), (3, .int x3), (4, .int x4), (5, .int x5), (6, .int x6), (7, .int x7), (8, .int x8)]) rfl ?_
      exact G_sub (w_m_X11_mostPairs_187 C q hA k35 hk35 N N x1 x2 x3 x4 x5 x7 x8 (0 : Int32) σ) [1, 2, 3, 4, 5, 6, 8, 9, 0] rfl
    · refine G_aload_n C dX11_mostPairs_61 rfl 0 rfl ?_
      refine G_getR C f_X11_mostPairs_37 t77 rfl dX11_mostPairs_62 ?_
      refine G_iload C dX11_mostPairs_65 9 rfl ?_
      refine G_iload C dX11_mostPairs_67 6 rfl ?_
      refine G_bipush C dX11_mostPairs_69 (v := 7) (by decide +kernel) ?_
      refine G_irem C dX11_mostPairs_71 (by decide) ?_
      refine G_bipush C dX11_mostPairs_72 (v := 6) (by decide +kernel) ?_
      refine G_icmp_ne C dX11_mostPairs_74 (tgt := 81) (by decide) (fun c2 => ?_) (fun c2 => ?_)
      · refine G_iconst C dX11_mostPairs_77 (v := -1) (by decide +kernel) ?_
        refine G_goto C dX11_mostPairs_78 (tgt := 86) (by decide) ?_
        exact w_m_X11_mostPairs_86 C q hA k35 hk35 (m_X11_mostPairs_56 k35 N fu) ih N x1 x2 x3 x4 x5 x6 x7 x8 x9 x9 (-1 : Int32) σ
      · refine G_iload C dX11_mostPairs_81 6 rfl ?_
        refine G_bipush C dX11_mostPairs_83 (v := 7) (by decide +kernel) ?_
        refine G_irem C dX11_mostPairs_85 (by decide) ?_
        exact w_m_X11_mostPairs_86 C q hA k35 hk35 (m_X11_mostPairs_56 k35 N fu) ih N x1 x2 x3 x4 x5 x6 x7 x8 x9 x9 (x6 - x6 / (7 : Int32) * (7 : Int32)) σ
set_option maxHeartbeats 4000000 in
set_option maxRecDepth 100000 in
theorem w_m_X11_mostPairs_35 {X : g_X (Int32 × g_St)} (C : g_C X cX11_mostPairs RX11 wsX11_mostPairs rm_m_X11_mostPairs 10) (q : g_qI X) (hA : g_ag L_m_X11_mostPairs (g_n X) (g_T X)) (N : Nat) : ∀ (fu : Nat) (x1 : Int32) (x2 : Int32) (x3 : Int32) (x4 : Int32) (x5 : Int32) (σ : g_St), G X 35 [(0, .ref (g_b X + 77)), (1, .int x1), (2, .int x2), (3, .int x3), (4, .int x4), (5, .int x5)] [] σ (m_X11_mostPairs_35 N fu x1 x2 x3 x4 x5 σ) := by
  intro fu
  induction fu with
  | zero => intro x1 x2 x3 x4 x5 σ; exact G_none
  | succ fu ih =>
    intro x1 x2 x3 x4 x5 σ
    unfold m_X11_mostPairs_35
    refine G_iload C dX11_mostPairs_35 5 rfl ?_
    refine G_iload_n C dX11_mostPairs_37 rfl 3 rfl ?_
    refine G_icmp_ge C dX11_mostPairs_38 (tgt := 290) (by decide) (fun c1 => ?_) (fun c1 => ?_)
    · refine G_iload C dX11_mostPairs_290 4 rfl ?_
      refine G_iconst C dX11_mostPairs_292 (v := 2) (by decide +kernel) ?_
      refine G_idiv C dX11_mostPairs_293 (by decide) ?_
      exact G_iret C q dX11_mostPairs_294
    · refine G_iload C dX11_mostPairs_41 5 rfl ?_
      refine G_istore C dX11_mostPairs_43 rfl (lv' := [(6, .int x5), (0, .ref (g_b X + 77)), (1, .int x1), (2, .int x2), (3, .int x3), (4, .int x4), (5, .int x5)]) rfl ?_
      refine G_iconst C dX11_mostPairs_45 (v := 0) (by decide +kernel) ?_
      refine G_istore C dX11_mostPairs_46 rfl (lv' := [(7, .int (0 : Int32)), (6, .int x5), (0, .ref (g_b X + 77)), (1, .int x1), (2, .int x2), (3, .int x3), (4, .int x4), (5, .int x5)]) rfl ?_
      refine G_iconst C dX11_mostPairs_48 (v := 1) (by decide +kernel) ?_
      refine G_istore C dX11_mostPairs_49 rfl (lv' := [(8, .int (1 : Int32)), (7, .int (0 : Int32)), (6, .int x5), (0, .ref (g_b X + 77)), (1, .int x1), (2, .int x2), (3, .int x3), (4, .int x4), (5, .int x5)]) rfl ?_
      refine G_iload_n C dX11_mostPairs_51 rfl 5 rfl ?_
      refine G_iconst C dX11_mostPairs_52 (v := 1) (by decide +kernel) ?_
      refine G_isub C dX11_mostPairs_53 ?_
      refine G_lti (fun v2 => ?_)
      refine G_istore C dX11_mostPairs_54 rfl (lv' := [(9, .int v2), (8, .int (1 : Int32)), (7, .int (0 : Int32)), (6, .int x5), (0, .ref (g_b X + 77)), (1, .int x1), (2, .int x2), (3, .int x3), (4, .int x4), (5, .int x5)]) rfl ?_
      exact G_sub (w_m_X11_mostPairs_56 C q hA (m_X11_mostPairs_35 N fu) ih N N x1 x2 x3 x4 x5 x5 (0 : Int32) (1 : Int32) v2 σ) [4, 5, 6, 7, 8, 9, 3, 2, 1, 0] rfl
set_option maxHeartbeats 4000000 in
set_option maxRecDepth 100000 in
theorem w_m_X11_mostPairs_12 {X : g_X (Int32 × g_St)} (C : g_C X cX11_mostPairs RX11 wsX11_mostPairs rm_m_X11_mostPairs 10) (q : g_qI X) (hA : g_ag L_m_X11_mostPairs (g_n X) (g_T X)) (N : Nat) : ∀ (fu : Nat) (x1 : Int32) (x2 : Int32) (x3 : Int32) (x4 : Int32) (σ : g_St), G X 12 [(0, .ref (g_b X + 77)), (1, .int x1), (2, .int x2), (3, .int x3), (4, .int x4)] [] σ (m_X11_mostPairs_12 N fu x1 x2 x3 x4 σ) := by
  intro fu
  induction fu with
  | zero => intro x1 x2 x3 x4 σ; exact G_none
  | succ fu ih =>
    intro x1 x2 x3 x4 σ
    unfold m_X11_mostPairs_12
    refine G_iload C dX11_mostPairs_12 4 rfl ?_
    refine G_iload_n C dX11_mostPairs_14 rfl 2 rfl ?_
    refine G_icmp_ge C dX11_mostPairs_15 (tgt := 29) (by decide) (fun c1 => ?_) (fun c1 => ?_)
    · refine G_iconst C dX11_mostPairs_29 (v := -1) (by decide +kernel) ?_
      refine G_istore C dX11_mostPairs_30 rfl (lv' := [(4, .int (-1 : Int32)), (0, .ref (g_b X + 77)), (1, .int x1), (2, .int x2), (3, .int x3)]) rfl ?_
      refine G_iconst C dX11_mostPairs_32 (v := 0) (by decide +kernel) ?_
      refine G_istore C dX11_mostPairs_33 rfl (lv' := [(5, .int (0 : Int32)), (4, .int (-1 : Int32)), (0, .ref (g_b X + 77)), (1, .int x1), (2, .int x2), (3, .int x3)]) rfl ?_
      exact G_sub (w_m_X11_mostPairs_35 C q hA N N x1 x2 x3 (-1 : Int32) (0 : Int32) σ) [2, 3, 4, 5, 1, 0] rfl
    · refine G_iload_n C dX11_mostPairs_18 rfl 3 rfl ?_
      refine G_bipush C dX11_mostPairs_19 (v := 7) (by decide +kernel) ?_
      refine G_imul C dX11_mostPairs_21 ?_
      refine G_lti (fun v2 => ?_)
      refine G_istore_n C dX11_mostPairs_22 rfl rfl (lv' := [(3, .int v2), (0, .ref (g_b X + 77)), (1, .int x1), (2, .int x2), (4, .int x4)]) rfl ?_
      refine G_iinc C dX11_mostPairs_23 4 rfl (v := (x4 + (1 : Int32))) (by rfl) rfl (lv' := [(4, .int (x4 + (1 : Int32))), (3, .int v2), (0, .ref (g_b X + 77)), (1, .int x1), (2, .int x2)]) rfl ?_
      refine G_ltv (fun v => [(4, .int v), (3, .int v2), (0, .ref (g_b X + 77)), (1, .int x1), (2, .int x2)]) (fun v3 => ?_)
      refine G_goto C dX11_mostPairs_26 (tgt := 12) (by decide) ?_
      exact G_sub (ih x1 x2 v2 v3 σ) [2, 3, 4, 1, 0] rfl
set_option maxHeartbeats 4000000 in
set_option maxRecDepth 100000 in
theorem w_m_X11_mostPairs_0 {X : g_X (Int32 × g_St)} (C : g_C X cX11_mostPairs RX11 wsX11_mostPairs rm_m_X11_mostPairs 10) (q : g_qI X) (hA : g_ag L_m_X11_mostPairs (g_n X) (g_T X)) (N : Nat) (x1 : Int32) (σ : g_St) : G X 0 [(0, .ref (g_b X + 77)), (1, .int x1)] [] σ (m_X11_mostPairs N x1 σ) := by
  have t77 := g_ag_at hA (c := 77) rfl tc77
  have t79 := g_ag_at hA (c := 79) rfl tc79
  unfold m_X11_mostPairs
  refine G_aload_n C dX11_mostPairs_0 rfl 0 rfl ?_
  refine G_getR C f_X11_mostPairs_13 t77 rfl dX11_mostPairs_1 ?_
  refine G_iconst C dX11_mostPairs_4 (v := 0) (by decide +kernel) ?_
  refine G_aldk C t79 (by decide +kernel) (k := 0) rfl dX11_mostPairs_5 ?_
  refine G_lti (fun v1 => ?_)
  refine G_istore_n C dX11_mostPairs_6 rfl rfl (lv' := [(2, .int v1), (0, .ref (g_b X + 77)), (1, .int x1)]) rfl ?_
  refine G_iconst C dX11_mostPairs_7 (v := 1) (by decide +kernel) ?_
  refine G_istore_n C dX11_mostPairs_8 rfl rfl (lv' := [(3, .int (1 : Int32)), (2, .int v1), (0, .ref (g_b X + 77)), (1, .int x1)]) rfl ?_
  refine G_iconst C dX11_mostPairs_9 (v := 0) (by decide +kernel) ?_
  refine G_istore C dX11_mostPairs_10 rfl (lv' := [(4, .int (0 : Int32)), (3, .int (1 : Int32)), (2, .int v1), (0, .ref (g_b X + 77)), (1, .int x1)]) rfl ?_
  exact G_sub (w_m_X11_mostPairs_12 C q hA N N x1 v1 (1 : Int32) (0 : Int32) σ) [3, 4, 2, 1, 0] rfl
theorem k_m_X11_mostPairs (l : Launch) (E : g_E) (n : Nat) (T : Nat → g_Sh) (hA : g_ag L_m_X11_mostPairs n T) (N : Nat) (x1 : Int32) (σ : g_St) (a : Int32 × g_St) (h : m_X11_mostPairs N x1 σ = some a) : Met l yX11_mostPairs wsX11_mostPairs rm_m_X11_mostPairs (g_Pc E n T [.ref (E.2.1 + 77), .int x1] σ) (g_Qi E n T a) 0 0 (g_A E) :=
  g_metI (by decide +kernel) rfl rfl (Nat.le_of_ble_eq_true rfl) (fun M Qf C q => by rw [← h]; exact w_m_X11_mostPairs_0 C q hA N x1 σ)
def L_m_X11_couples : List Nat := [77, 79, 81, 87, 88]
abbrev rm_m_X11_couples : Room := { frames := 2, cells := 0, slots := 0, locals := 55 }
theorem f_X11_couples_40 : g_Fld wsX11_couples RX11 40 11 16 := ⟨RX11, TX11, 27, rfl, by decide +kernel, by decide, by decide +kernel⟩
theorem c_X11_couples_139 : Cond.constant RX11 139 (-1000000001) ∈ wsX11_couples := by decide +kernel
theorem c_X11_couples_169 : Cond.constantLong RX11 169 (99) ∈ wsX11_couples := by decide +kernel
theorem c_X11_couples_71 : Cond.constant RX11 71 (-1000000002) ∈ wsX11_couples := by decide +kernel
set_option maxHeartbeats 4000000 in
set_option maxRecDepth 100000 in
theorem w_m_X11_couples_16 {X : g_X (Int32 × g_St)} (C : g_C X cX11_couples RX11 wsX11_couples rm_m_X11_couples 4) (q : g_qI X) (hA : g_ag L_m_X11_couples (g_n X) (g_T X)) (N : Nat) (x1 : Int32) (x2 : Int32) (σ : g_St) : G X 16 [(0, .ref (g_b X + 77)), (1, .int x1), (2, .int x2)] [] σ (m_X11_couples_16 N x1 x2 σ) := by
  have t77 := g_ag_at hA (c := 77) rfl tc77
  have t88 := g_ag_at hA (c := 88) rfl tc88
  unfold m_X11_couples_16
  refine G_iload_n C dX11_couples_16 rfl 1 rfl ?_
  refine G_i2l C dX11_couples_17 ?_
  refine G_lconst C dX11_couples_18 (v := 0) (by decide +kernel) ?_
  refine G_ldc2 C dX11_couples_19 c_X11_couples_169 ?_
  refine G_callI (rest := []) (fun a ha => g_runS C (nargs := 3) (As := [.long (x1).toInt64, .long (0 : Int64), .long (99 : Int64)]) (rest := []) gX11_couples_X11_in rfl (by decide +kernel) rfl rfl rfl dX11_couples_22 (k_m_X11_in X.1.2.1 X.2.1 (g_n X) (g_T X) (g_ag_sub hA (by decide +kernel)) (x1).toInt64 (0 : Int64) (99 : Int64) σ a ha)) (fun q1 => ?_)
  refine G_if_ne C dX11_couples_25 (tgt := 31) (by decide) (fun c2 => ?_) (fun c2 => ?_)
  · refine G_ldc C dX11_couples_28 c_X11_couples_71 ?_
    exact G_iret C q dX11_couples_30
  · refine G_aload_n C dX11_couples_31 rfl 0 rfl ?_
    refine G_iload_n C dX11_couples_32 rfl 1 rfl ?_
    refine G_callI (rest := []) (fun a ha => g_runV C (nargs := 1) (As := [.int x1]) (rest := []) gX11_couples_X11_mostPairs rfl (by decide +kernel) rfl t77 rfl rfl rfl rfl dX11_couples_33 (k_m_X11_mostPairs X.1.2.1 X.2.1 (g_n X) (g_T X) (g_ag_sub hA (by decide +kernel)) N x1 q1.2 a ha)) (fun q3 => ?_)
    refine G_istore_n C dX11_couples_36 rfl rfl (lv' := [(3, .int q3.1), (0, .ref (g_b X + 77)), (1, .int x1), (2, .int x2)]) rfl ?_
    refine G_iload_n C dX11_couples_37 rfl 3 rfl ?_
    refine G_iconst C dX11_couples_38 (v := -1) (by decide +kernel) ?_
    refine G_icmp_ne C dX11_couples_39 (tgt := 46) (by decide) (fun c4 => ?_) (fun c4 => ?_)
    · refine G_iload_n C dX11_couples_42 rfl 0 rfl ?_
      refine G_goto C dX11_couples_43 (tgt := 52) (by decide) ?_
      exact G_iret C q dX11_couples_52
    · refine G_aload_n C dX11_couples_46 rfl 1 rfl ?_
      refine G_getR C f_X11_couples_40 t77 rfl dX11_couples_47 ?_
      refine G_iload_n C dX11_couples_50 rfl 3 rfl ?_
      refine G_chk (fun h5 => ?_)
      refine G_ald C t88 h5 dX11_couples_51 ?_
      exact G_iret C q dX11_couples_52
set_option maxHeartbeats 4000000 in
set_option maxRecDepth 100000 in
theorem w_m_X11_couples_0 {X : g_X (Int32 × g_St)} (C : g_C X cX11_couples RX11 wsX11_couples rm_m_X11_couples 4) (q : g_qI X) (hA : g_ag L_m_X11_couples (g_n X) (g_T X)) (N : Nat) (x1 : Int32) (x2 : Int32) (σ : g_St) : G X 0 [(0, .ref (g_b X + 77)), (1, .int x1), (2, .int x2)] [] σ (m_X11_couples N x1 x2 σ) := by
  have t77 := g_ag_at hA (c := 77) rfl tc77
  unfold m_X11_couples
  refine G_iload_n C dX11_couples_0 rfl 2 rfl ?_
  refine G_iconst C dX11_couples_1 (v := -1) (by decide +kernel) ?_
  refine G_icmp_eq C dX11_couples_2 (tgt := 16) (by decide) (fun c1 => ?_) (fun c1 => ?_)
  · exact w_m_X11_couples_16 C q hA N x1 x2 σ
  · refine G_aload_n C dX11_couples_5 rfl 0 rfl ?_
    refine G_iload_n C dX11_couples_6 rfl 2 rfl ?_
    refine G_callI (rest := []) (fun a ha => g_runV C (nargs := 1) (As := [.int x2]) (rest := []) gX11_couples_X11_isPerson rfl (by decide +kernel) rfl t77 rfl rfl rfl rfl dX11_couples_7 (k_m_X11_isPerson X.1.2.1 X.2.1 (g_n X) (g_T X) (g_ag_sub hA (by decide +kernel)) x2 σ a ha)) (fun q2 => ?_)
    refine G_if_ne C dX11_couples_10 (tgt := 16) (by decide) (fun c3 => ?_) (fun c3 => ?_)
    · refine G_ldc C dX11_couples_13 c_X11_couples_139 ?_
      exact G_iret C q dX11_couples_15
    · exact w_m_X11_couples_16 C q hA N x1 x2 q2.2
theorem k_m_X11_couples (l : Launch) (E : g_E) (n : Nat) (T : Nat → g_Sh) (hA : g_ag L_m_X11_couples n T) (N : Nat) (x1 : Int32) (x2 : Int32) (σ : g_St) (a : Int32 × g_St) (h : m_X11_couples N x1 x2 σ = some a) : Met l yX11_couples wsX11_couples rm_m_X11_couples (g_Pc E n T [.ref (E.2.1 + 77), .int x1, .int x2] σ) (g_Qi E n T a) 0 0 (g_A E) :=
  g_metI (by decide +kernel) rfl rfl (Nat.le_of_ble_eq_true rfl) (fun M Qf C q => by rw [← h]; exact w_m_X11_couples_0 C q hA N x1 x2 σ)
def L_m_X11_see : List Nat := [77, 79, 89]
abbrev rm_m_X11_see : Room := { frames := 2, cells := 0, slots := 0, locals := 46 }
theorem f_X11_see_110 : g_Fld wsX11_see RX11 110 11 17 := ⟨RX11, TX11, 27, rfl, by decide +kernel, by decide, by decide +kernel⟩
theorem f_X11_see_43 : g_Fld wsX11_see RX11 43 11 18 := ⟨RX11, TX11, 27, rfl, by decide +kernel, by decide, by decide +kernel⟩
theorem p_X11_see_110 : g_FldP wsX11_see RX11 110 11 17 .int := ⟨RX11, TX11, 27, tyX11, rfl, by decide +kernel, by decide, by decide +kernel, tyX11_ok, nmX11, rfl, by decide +kernel⟩
theorem c_X11_see_139 : Cond.constant RX11 139 (-1000000001) ∈ wsX11_see := by decide +kernel
theorem c_X11_see_75 : Cond.constant RX11 75 (-1000000004) ∈ wsX11_see := by decide +kernel
set_option maxHeartbeats 4000000 in
set_option maxRecDepth 100000 in
theorem w_m_X11_see_0 {X : g_X (Int32 × g_St)} (C : g_C X cX11_see RX11 wsX11_see rm_m_X11_see 2) (q : g_qI X) (hA : g_ag L_m_X11_see (g_n X) (g_T X)) (x1 : Int32) (σ : g_St) : G X 0 [(0, .ref (g_b X + 77)), (1, .int x1)] [] σ (m_X11_see x1 σ) := by
  have t77 := g_ag_at hA (c := 77) rfl tc77
  have t89 := g_ag_at hA (c := 89) rfl tc89
  unfold m_X11_see
  refine G_aload_n C dX11_see_0 rfl 0 rfl ?_
  refine G_iload_n C dX11_see_1 rfl 1 rfl ?_
  refine G_callI (rest := []) (fun a ha => g_runV C (nargs := 1) (As := [.int x1]) (rest := []) gX11_see_X11_isTicket rfl (by decide +kernel) rfl t77 rfl rfl rfl rfl dX11_see_2 (k_m_X11_isTicket X.1.2.1 X.2.1 (g_n X) (g_T X) (g_ag_sub hA (by decide +kernel)) x1 σ a ha)) (fun q1 => ?_)
  refine G_if_ne C dX11_see_5 (tgt := 11) (by decide) (fun c2 => ?_) (fun c2 => ?_)
  · refine G_ldc C dX11_see_8 c_X11_see_139 ?_
    exact G_iret C q dX11_see_10
  · refine G_aload_n C dX11_see_11 rfl 0 rfl ?_
    refine G_getI C f_X11_see_110 t77 rfl dX11_see_12 ?_
    refine G_bipush C dX11_see_15 (v := 8) (by decide +kernel) ?_
    refine G_icmp_ne C dX11_see_17 (tgt := 23) (by decide) (fun c3 => ?_) (fun c3 => ?_)
    · refine G_ldc C dX11_see_20 c_X11_see_75 ?_
      exact G_iret C q dX11_see_22
    · refine G_aload_n C dX11_see_23 rfl 0 rfl ?_
      refine G_getR C f_X11_see_43 t77 rfl dX11_see_24 ?_
      refine G_aload_n C dX11_see_27 rfl 0 rfl ?_
      refine G_getI C f_X11_see_110 t77 rfl dX11_see_28 ?_
      refine G_iload_n C dX11_see_31 rfl 1 rfl ?_
      refine G_chk (fun h4 => ?_)
      refine G_ast C t89 h4 dX11_see_32 ?_
      refine G_lts (fun σ5 => ?_)
      refine G_aload_n C dX11_see_33 rfl 0 rfl ?_
      refine G_dup C dX11_see_34 rfl ?_
      refine G_getI C f_X11_see_110 t77 rfl dX11_see_35 ?_
      refine G_iconst C dX11_see_38 (v := 1) (by decide +kernel) ?_
      refine G_iadd C dX11_see_39 ?_
      refine G_putI C p_X11_see_110 t77 rfl rfl rfl dX11_see_40 ?_
      refine G_lts (fun σ6 => ?_)
      refine G_aload_n C dX11_see_43 rfl 0 rfl ?_
      refine G_getI C f_X11_see_110 t77 rfl dX11_see_44 ?_
      exact G_iret C q dX11_see_47
theorem k_m_X11_see (l : Launch) (E : g_E) (n : Nat) (T : Nat → g_Sh) (hA : g_ag L_m_X11_see n T) (x1 : Int32) (σ : g_St) (a : Int32 × g_St) (h : m_X11_see x1 σ = some a) : Met l yX11_see wsX11_see rm_m_X11_see (g_Pc E n T [.ref (E.2.1 + 77), .int x1] σ) (g_Qi E n T a) 0 0 (g_A E) :=
  g_metI (by decide +kernel) rfl rfl (Nat.le_of_ble_eq_true rfl) (fun M Qf C q => by rw [← h]; exact w_m_X11_see_0 C q hA x1 σ)
def L_m_X11_guess : List Nat := [77, 79, 89]
abbrev rm_m_X11_guess : Room := { frames := 2, cells := 0, slots := 0, locals := 44 }
theorem f_X11_guess_110 : g_Fld wsX11_guess RX11 110 11 17 := ⟨RX11, TX11, 27, rfl, by decide +kernel, by decide, by decide +kernel⟩
theorem f_X11_guess_43 : g_Fld wsX11_guess RX11 43 11 18 := ⟨RX11, TX11, 27, rfl, by decide +kernel, by decide, by decide +kernel⟩
theorem c_X11_guess_196 : Cond.constantLong RX11 196 (1000000000) ∈ wsX11_guess := by decide +kernel
set_option maxHeartbeats 4000000 in
set_option maxRecDepth 100000 in
theorem w_m_X11_guess_74 {X : g_X (Int64 × g_St)} (C : g_C X cX11_guess RX11 wsX11_guess rm_m_X11_guess 7) (q : g_qL X) (hA : g_ag L_m_X11_guess (g_n X) (g_T X)) (k32 : Int32 → Int64 → Int32 → Int32 → g_St → Option (Int64 × g_St)) (hk32 : ∀ (x1 : Int32) (x2 : Int64) (x4 : Int32) (x5 : Int32) (σ : g_St), G X 32 [(0, .ref (g_b X + 77)), (1, .int x1), (2, .long x2), (4, .int x4), (5, .int x5)] [] σ (k32 x1 x2 x4 x5 σ)) (N : Nat) (x1 : Int32) (x4 : Int32) (x5 : Int32) (s0 : Int64) (s1 : Int32) (σ : g_St) : G X 74 [(0, .ref (g_b X + 77)), (1, .int x1), (4, .int x4), (5, .int x5)] [.int s1, .long s0] σ (m_X11_guess_74 k32 N x1 x4 x5 s0 s1 σ) := by
  unfold m_X11_guess_74
  refine G_i2l C dX11_guess_74 ?_
  refine G_lmul C dX11_guess_75 ?_
  refine G_iload C dX11_guess_76 2 rfl ?_
  refine G_i2l C dX11_guess_78 ?_
  refine G_chn (fun h1 => ?_)
  refine G_ldiv C dX11_guess_79 h1 ?_
  refine G_ltl (fun v2 => ?_)
  refine G_lstore_n C dX11_guess_80 rfl rfl (lv' := [(2, .long v2), (0, .ref (g_b X + 77)), (1, .int x1), (4, .int x4), (5, .int x5)]) rfl ?_
  refine G_iinc C dX11_guess_81 4 rfl (v := (x5 + (1 : Int32))) (by rfl) rfl (lv' := [(5, .int (x5 + (1 : Int32))), (2, .long v2), (0, .ref (g_b X + 77)), (1, .int x1), (4, .int x4)]) rfl ?_
  refine G_ltv (fun v => [(5, .int v), (2, .long v2), (0, .ref (g_b X + 77)), (1, .int x1), (4, .int x4)]) (fun v3 => ?_)
  refine G_goto C dX11_guess_84 (tgt := 32) (by decide) ?_
  exact G_sub (hk32 x1 v2 x4 v3 σ) [2, 3, 1, 4, 0] rfl
set_option maxHeartbeats 4000000 in
set_option maxRecDepth 100000 in
theorem w_m_X11_guess_32 {X : g_X (Int64 × g_St)} (C : g_C X cX11_guess RX11 wsX11_guess rm_m_X11_guess 7) (q : g_qL X) (hA : g_ag L_m_X11_guess (g_n X) (g_T X)) (N : Nat) : ∀ (fu : Nat) (x1 : Int32) (x2 : Int64) (x4 : Int32) (x5 : Int32) (σ : g_St), G X 32 [(0, .ref (g_b X + 77)), (1, .int x1), (2, .long x2), (4, .int x4), (5, .int x5)] [] σ (m_X11_guess_32 N fu x1 x2 x4 x5 σ) := by
  have t77 := g_ag_at hA (c := 77) rfl tc77
  have t89 := g_ag_at hA (c := 89) rfl tc89
  intro fu
  induction fu with
  | zero => intro x1 x2 x4 x5 σ; exact G_none
  | succ fu ih =>
    intro x1 x2 x4 x5 σ
    unfold m_X11_guess_32
    refine G_iload C dX11_guess_32 4 rfl ?_
    refine G_aload_n C dX11_guess_34 rfl 0 rfl ?_
    refine G_getI C f_X11_guess_110 t77 rfl dX11_guess_35 ?_
    refine G_icmp_ge C dX11_guess_38 (tgt := 87) (by decide) (fun c1 => ?_) (fun c1 => ?_)
    · refine G_lload_n C dX11_guess_87 rfl 2 rfl ?_
      exact G_lret C q dX11_guess_88
    · refine G_aload_n C dX11_guess_41 rfl 0 rfl ?_
      refine G_getR C f_X11_guess_43 t77 rfl dX11_guess_42 ?_
      refine G_iload C dX11_guess_45 4 rfl ?_
      refine G_chk (fun h2 => ?_)
      refine G_ald C t89 h2 dX11_guess_47 ?_
      refine G_lti (fun v3 => ?_)
      refine G_istore C dX11_guess_48 rfl (lv' := [(6, .int v3), (0, .ref (g_b X + 77)), (1, .int x1), (2, .long x2), (4, .int x4), (5, .int x5)]) rfl ?_
      refine G_lload_n C dX11_guess_50 rfl 3 rfl ?_
      refine G_iload C dX11_guess_51 0 rfl ?_
      refine G_iload_n C dX11_guess_53 rfl 2 rfl ?_
      refine G_icmp_ne C dX11_guess_54 (tgt := 68) (by decide) (fun c4 => ?_) (fun c4 => ?_)
      · refine G_iconst C dX11_guess_57 (v := 2) (by decide +kernel) ?_
        refine G_aload_n C dX11_guess_58 rfl 1 rfl ?_
        refine G_iload C dX11_guess_59 0 rfl ?_
        refine G_callI (rest := [.int (2 : Int32), .long x2]) (fun a ha => g_runV C (nargs := 1) (As := [.int v3]) (rest := [.int (2 : Int32), .long x2]) gX11_guess_X11_weight rfl (by decide +kernel) rfl t77 rfl rfl rfl rfl dX11_guess_61 (k_m_X11_weight X.1.2.1 X.2.1 (g_n X) (g_T X) (g_ag_sub hA (by decide +kernel)) v3 σ a ha)) (fun q6 => ?_)
        refine G_imul C dX11_guess_64 ?_
        refine G_goto C dX11_guess_65 (tgt := 74) (by decide) ?_
        exact G_sub (w_m_X11_guess_74 C q hA (m_X11_guess_32 N fu) ih N x1 x4 x5 x2 ((2 : Int32) * q6.1) q6.2) [1, 2, 4, 5] rfl
      · refine G_aload_n C dX11_guess_68 rfl 1 rfl ?_
        refine G_iload C dX11_guess_69 0 rfl ?_
        refine G_callI (rest := [.long x2]) (fun a ha => g_runV C (nargs := 1) (As := [.int v3]) (rest := [.long x2]) gX11_guess_X11_weight rfl (by decide +kernel) rfl t77 rfl rfl rfl rfl dX11_guess_71 (k_m_X11_weight X.1.2.1 X.2.1 (g_n X) (g_T X) (g_ag_sub hA (by decide +kernel)) v3 σ a ha)) (fun q5 => ?_)
        exact G_sub (w_m_X11_guess_74 C q hA (m_X11_guess_32 N fu) ih N x1 x4 x5 x2 q5.1 q5.2) [1, 2, 4, 5] rfl
set_option maxHeartbeats 4000000 in
set_option maxRecDepth 100000 in
theorem w_m_X11_guess_26 {X : g_X (Int64 × g_St)} (C : g_C X cX11_guess RX11 wsX11_guess rm_m_X11_guess 7) (q : g_qL X) (hA : g_ag L_m_X11_guess (g_n X) (g_T X)) (N : Nat) (x1 : Int32) (x2 : Int64) (s0 : Int32) (s1 : Int32) (σ : g_St) : G X 26 [(0, .ref (g_b X + 77)), (1, .int x1), (2, .long x2)] [.int s1, .int s0] σ (m_X11_guess_26 N x1 x2 s0 s1 σ) := by
  unfold m_X11_guess_26
  refine G_iadd C dX11_guess_26 ?_
  refine G_lti (fun v1 => ?_)
  refine G_istore C dX11_guess_27 rfl (lv' := [(4, .int v1), (0, .ref (g_b X + 77)), (1, .int x1), (2, .long x2)]) rfl ?_
  refine G_iconst C dX11_guess_29 (v := 0) (by decide +kernel) ?_
  refine G_istore C dX11_guess_30 rfl (lv' := [(5, .int (0 : Int32)), (4, .int v1), (0, .ref (g_b X + 77)), (1, .int x1), (2, .long x2)]) rfl ?_
  exact G_sub (w_m_X11_guess_32 C q hA N N x1 x2 v1 (0 : Int32) σ) [2, 3, 4, 1, 0] rfl
set_option maxHeartbeats 4000000 in
set_option maxRecDepth 100000 in
theorem w_m_X11_guess_0 {X : g_X (Int64 × g_St)} (C : g_C X cX11_guess RX11 wsX11_guess rm_m_X11_guess 7) (q : g_qL X) (hA : g_ag L_m_X11_guess (g_n X) (g_T X)) (N : Nat) (x1 : Int32) (σ : g_St) : G X 0 [(0, .ref (g_b X + 77)), (1, .int x1)] [] σ (m_X11_guess N x1 σ) := by
  have t77 := g_ag_at hA (c := 77) rfl tc77
  unfold m_X11_guess
  refine G_ldc2 C dX11_guess_0 c_X11_guess_196 ?_
  refine G_lstore_n C dX11_guess_3 rfl rfl (lv' := [(2, .long (1000000000 : Int64)), (0, .ref (g_b X + 77)), (1, .int x1)]) rfl ?_
  refine G_aload_n C dX11_guess_4 rfl 1 rfl ?_
  refine G_aload_n C dX11_guess_5 rfl 1 rfl ?_
  refine G_callI (rest := [.ref (g_b X + 77)]) (fun a ha => g_runV C (nargs := 0) (As := []) (rest := [.ref (g_b X + 77)]) gX11_guess_X11_all rfl (by decide +kernel) rfl t77 rfl rfl rfl rfl dX11_guess_6 (k_m_X11_all X.1.2.1 X.2.1 (g_n X) (g_T X) (g_ag_sub hA (by decide +kernel)) σ a ha)) (fun q1 => ?_)
  refine G_callI (rest := []) (fun a ha => g_runV C (nargs := 1) (As := [.int q1.1]) (rest := []) gX11_guess_X11_weightOf rfl (by decide +kernel) rfl t77 rfl rfl rfl rfl dX11_guess_9 (k_m_X11_weightOf X.1.2.1 X.2.1 (g_n X) (g_T X) (g_ag_sub hA (by decide +kernel)) N q1.1 q1.2 a ha)) (fun q2 => ?_)
  refine G_iload_n C dX11_guess_12 rfl 2 rfl ?_
  refine G_iconst C dX11_guess_13 (v := -1) (by decide +kernel) ?_
  refine G_icmp_ne C dX11_guess_14 (tgt := 21) (by decide) (fun c3 => ?_) (fun c3 => ?_)
  · refine G_iconst C dX11_guess_17 (v := 0) (by decide +kernel) ?_
    refine G_goto C dX11_guess_18 (tgt := 26) (by decide) ?_
    exact G_sub (w_m_X11_guess_26 C q hA N x1 (1000000000 : Int64) q2.1 (0 : Int32) q2.2) [1, 2, 0] rfl
  · refine G_aload_n C dX11_guess_21 rfl 1 rfl ?_
    refine G_iload_n C dX11_guess_22 rfl 2 rfl ?_
    refine G_callI (rest := [.int q2.1]) (fun a ha => g_runV C (nargs := 1) (As := [.int x1]) (rest := [.int q2.1]) gX11_guess_X11_weight rfl (by decide +kernel) rfl t77 rfl rfl rfl rfl dX11_guess_23 (k_m_X11_weight X.1.2.1 X.2.1 (g_n X) (g_T X) (g_ag_sub hA (by decide +kernel)) x1 q2.2 a ha)) (fun q4 => ?_)
    exact G_sub (w_m_X11_guess_26 C q hA N x1 (1000000000 : Int64) q2.1 q4.1 q4.2) [1, 2, 0] rfl
theorem k_m_X11_guess (l : Launch) (E : g_E) (n : Nat) (T : Nat → g_Sh) (hA : g_ag L_m_X11_guess n T) (N : Nat) (x1 : Int32) (σ : g_St) (a : Int64 × g_St) (h : m_X11_guess N x1 σ = some a) : Met l yX11_guess wsX11_guess rm_m_X11_guess (g_Pc E n T [.ref (E.2.1 + 77), .int x1] σ) (g_Ql E n T a) 0 0 (g_A E) :=
  g_metL (by decide +kernel) rfl rfl (Nat.le_of_ble_eq_true rfl) (fun M Qf C q => by rw [← h]; exact w_m_X11_guess_0 C q hA N x1 σ)
def L_m_X11_belief : List Nat := [77, 79, 89]
abbrev rm_m_X11_belief : Room := { frames := 3, cells := 0, slots := 0, locals := 70 }
theorem f_X11_belief_13 : g_Fld wsX11_belief RX11 13 11 1 := ⟨RX11, TX11, 27, rfl, by decide +kernel, by decide, by decide +kernel⟩
theorem c_X11_belief_139 : Cond.constant RX11 139 (-1000000001) ∈ wsX11_belief := by decide +kernel
theorem c_X11_belief_223 : Cond.constantLong RX11 223 (1000000) ∈ wsX11_belief := by decide +kernel
set_option maxHeartbeats 4000000 in
set_option maxRecDepth 100000 in
theorem w_m_X11_belief_25 {X : g_X (Int32 × g_St)} (C : g_C X cX11_belief RX11 wsX11_belief rm_m_X11_belief 5) (q : g_qI X) (hA : g_ag L_m_X11_belief (g_n X) (g_T X)) (N : Nat) : ∀ (fu : Nat) (x1 : Int32) (x2 : Int64) (x4 : Int32) (σ : g_St), G X 25 [(0, .ref (g_b X + 77)), (1, .int x1), (2, .long x2), (4, .int x4)] [] σ (m_X11_belief_25 N fu x1 x2 x4 σ) := by
  have t77 := g_ag_at hA (c := 77) rfl tc77
  have t79 := g_ag_at hA (c := 79) rfl tc79
  intro fu
  induction fu with
  | zero => intro x1 x2 x4 σ; exact G_none
  | succ fu ih =>
    intro x1 x2 x4 σ
    unfold m_X11_belief_25
    refine G_iload C dX11_belief_25 3 rfl ?_
    refine G_aload_n C dX11_belief_27 rfl 0 rfl ?_
    refine G_getR C f_X11_belief_13 t77 rfl dX11_belief_28 ?_
    refine G_iconst C dX11_belief_31 (v := 1) (by decide +kernel) ?_
    refine G_aldk C t79 (by decide +kernel) (k := 1) rfl dX11_belief_32 ?_
    refine G_icmp_ge C dX11_belief_33 (tgt := 51) (by decide) (fun c1 => ?_) (fun c1 => ?_)
    · refine G_lload_n C dX11_belief_51 rfl 2 rfl ?_
      refine G_lconst C dX11_belief_52 (v := 0) (by decide +kernel) ?_
      refine G_lcmp C dX11_belief_53 ?_
      refine G_if_ne C dX11_belief_54 (tgt := 61) (by decide) (fun c2 => ?_) (fun c2 => ?_)
      · refine G_iconst C dX11_belief_57 (v := 0) (by decide +kernel) ?_
        refine G_goto C dX11_belief_58 (tgt := 73) (by decide) ?_
        exact G_iret C q dX11_belief_73
      · refine G_aload_n C dX11_belief_61 rfl 0 rfl ?_
        refine G_iload_n C dX11_belief_62 rfl 1 rfl ?_
        refine G_callL (rest := []) (fun a ha => g_runV C (nargs := 1) (As := [.int x1]) (rest := []) gX11_belief_X11_guess rfl (by decide +kernel) rfl t77 rfl rfl rfl rfl dX11_belief_63 (k_m_X11_guess X.1.2.1 X.2.1 (g_n X) (g_T X) (g_ag_sub hA (by decide +kernel)) N x1 σ a ha)) (fun q3 => ?_)
        refine G_ldc2 C dX11_belief_66 c_X11_belief_223 ?_
        refine G_lmul C dX11_belief_69 ?_
        refine G_lload_n C dX11_belief_70 rfl 2 rfl ?_
        refine G_chn (fun h4 => ?_)
        refine G_ldiv C dX11_belief_71 h4 ?_
        refine G_l2i C dX11_belief_72 ?_
        exact G_iret C q dX11_belief_73
    · refine G_lload_n C dX11_belief_36 rfl 2 rfl ?_
      refine G_aload_n C dX11_belief_37 rfl 0 rfl ?_
      refine G_iload C dX11_belief_38 3 rfl ?_
      refine G_callL (rest := [.long x2]) (fun a ha => g_runV C (nargs := 1) (As := [.int x4]) (rest := [.long x2]) gX11_belief_X11_guess rfl (by decide +kernel) rfl t77 rfl rfl rfl rfl dX11_belief_40 (k_m_X11_guess X.1.2.1 X.2.1 (g_n X) (g_T X) (g_ag_sub hA (by decide +kernel)) N x4 σ a ha)) (fun q5 => ?_)
      refine G_ladd C dX11_belief_43 ?_
      refine G_ltl (fun v6 => ?_)
      refine G_lstore_n C dX11_belief_44 rfl rfl (lv' := [(2, .long v6), (0, .ref (g_b X + 77)), (1, .int x1), (4, .int x4)]) rfl ?_
      refine G_iinc C dX11_belief_45 3 rfl (v := (x4 + (1 : Int32))) (by rfl) rfl (lv' := [(4, .int (x4 + (1 : Int32))), (2, .long v6), (0, .ref (g_b X + 77)), (1, .int x1)]) rfl ?_
      refine G_ltv (fun v => [(4, .int v), (2, .long v6), (0, .ref (g_b X + 77)), (1, .int x1)]) (fun v7 => ?_)
      refine G_goto C dX11_belief_48 (tgt := 25) (by decide) ?_
      exact G_sub (ih x1 v6 v7 q5.2) [2, 3, 1, 0] rfl
set_option maxHeartbeats 4000000 in
set_option maxRecDepth 100000 in
theorem w_m_X11_belief_16 {X : g_X (Int32 × g_St)} (C : g_C X cX11_belief RX11 wsX11_belief rm_m_X11_belief 5) (q : g_qI X) (hA : g_ag L_m_X11_belief (g_n X) (g_T X)) (N : Nat) (x1 : Int32) (σ : g_St) : G X 16 [(0, .ref (g_b X + 77)), (1, .int x1)] [] σ (m_X11_belief_16 N x1 σ) := by
  have t77 := g_ag_at hA (c := 77) rfl tc77
  unfold m_X11_belief_16
  refine G_aload_n C dX11_belief_16 rfl 0 rfl ?_
  refine G_iconst C dX11_belief_17 (v := -1) (by decide +kernel) ?_
  refine G_callL (rest := []) (fun a ha => g_runV C (nargs := 1) (As := [.int (-1 : Int32)]) (rest := []) gX11_belief_X11_guess rfl (by decide +kernel) rfl t77 rfl rfl rfl rfl dX11_belief_18 (k_m_X11_guess X.1.2.1 X.2.1 (g_n X) (g_T X) (g_ag_sub hA (by decide +kernel)) N (-1 : Int32) σ a ha)) (fun q1 => ?_)
  refine G_lstore_n C dX11_belief_21 rfl rfl (lv' := [(2, .long q1.1), (0, .ref (g_b X + 77)), (1, .int x1)]) rfl ?_
  refine G_iconst C dX11_belief_22 (v := 0) (by decide +kernel) ?_
  refine G_istore C dX11_belief_23 rfl (lv' := [(4, .int (0 : Int32)), (2, .long q1.1), (0, .ref (g_b X + 77)), (1, .int x1)]) rfl ?_
  exact G_sub (w_m_X11_belief_25 C q hA N N x1 q1.1 (0 : Int32) q1.2) [2, 3, 1, 0] rfl
set_option maxHeartbeats 4000000 in
set_option maxRecDepth 100000 in
theorem w_m_X11_belief_0 {X : g_X (Int32 × g_St)} (C : g_C X cX11_belief RX11 wsX11_belief rm_m_X11_belief 5) (q : g_qI X) (hA : g_ag L_m_X11_belief (g_n X) (g_T X)) (N : Nat) (x1 : Int32) (σ : g_St) : G X 0 [(0, .ref (g_b X + 77)), (1, .int x1)] [] σ (m_X11_belief N x1 σ) := by
  have t77 := g_ag_at hA (c := 77) rfl tc77
  unfold m_X11_belief
  refine G_iload_n C dX11_belief_0 rfl 1 rfl ?_
  refine G_iconst C dX11_belief_1 (v := -1) (by decide +kernel) ?_
  refine G_icmp_eq C dX11_belief_2 (tgt := 16) (by decide) (fun c1 => ?_) (fun c1 => ?_)
  · exact w_m_X11_belief_16 C q hA N x1 σ
  · refine G_aload_n C dX11_belief_5 rfl 0 rfl ?_
    refine G_iload_n C dX11_belief_6 rfl 1 rfl ?_
    refine G_callI (rest := []) (fun a ha => g_runV C (nargs := 1) (As := [.int x1]) (rest := []) gX11_belief_X11_isTicket rfl (by decide +kernel) rfl t77 rfl rfl rfl rfl dX11_belief_7 (k_m_X11_isTicket X.1.2.1 X.2.1 (g_n X) (g_T X) (g_ag_sub hA (by decide +kernel)) x1 σ a ha)) (fun q2 => ?_)
    refine G_if_ne C dX11_belief_10 (tgt := 16) (by decide) (fun c3 => ?_) (fun c3 => ?_)
    · refine G_ldc C dX11_belief_13 c_X11_belief_139 ?_
      exact G_iret C q dX11_belief_15
    · exact w_m_X11_belief_16 C q hA N x1 q2.2
theorem k_m_X11_belief (l : Launch) (E : g_E) (n : Nat) (T : Nat → g_Sh) (hA : g_ag L_m_X11_belief n T) (N : Nat) (x1 : Int32) (σ : g_St) (a : Int32 × g_St) (h : m_X11_belief N x1 σ = some a) : Met l yX11_belief wsX11_belief rm_m_X11_belief (g_Pc E n T [.ref (E.2.1 + 77), .int x1] σ) (g_Qi E n T a) 0 0 (g_A E) :=
  g_metI (by decide +kernel) rfl rfl (Nat.le_of_ble_eq_true rfl) (fun M Qf C q => by rw [← h]; exact w_m_X11_belief_0 C q hA N x1 σ)
def L_m_X11_likeliest : List Nat := [77, 79, 89]
abbrev rm_m_X11_likeliest : Room := { frames := 3, cells := 0, slots := 0, locals := 70 }
theorem f_X11_likeliest_13 : g_Fld wsX11_likeliest RX11 13 11 1 := ⟨RX11, TX11, 27, rfl, by decide +kernel, by decide, by decide +kernel⟩
set_option maxHeartbeats 4000000 in
set_option maxRecDepth 100000 in
theorem w_m_X11_likeliest_58 {X : g_X (Int32 × g_St)} (C : g_C X cX11_likeliest RX11 wsX11_likeliest rm_m_X11_likeliest 7) (q : g_qI X) (hA : g_ag L_m_X11_likeliest (g_n X) (g_T X)) (k18 : Int32 → Int64 → Int32 → g_St → Option (Int32 × g_St)) (hk18 : ∀ (x1 : Int32) (x2 : Int64) (x4 : Int32) (σ : g_St), G X 18 [(0, .ref (g_b X + 77)), (1, .int x1), (2, .long x2), (4, .int x4)] [] σ (k18 x1 x2 x4 σ)) (N : Nat) (x1 : Int32) (x4 : Int32) (s0 : Int64) (σ : g_St) : G X 58 [(0, .ref (g_b X + 77)), (1, .int x1), (4, .int x4)] [.long s0] σ (m_X11_likeliest_58 k18 N x1 x4 s0 σ) := by
  unfold m_X11_likeliest_58
  refine G_lstore_n C dX11_likeliest_58 rfl rfl (lv' := [(2, .long s0), (0, .ref (g_b X + 77)), (1, .int x1), (4, .int x4)]) rfl ?_
  refine G_iinc C dX11_likeliest_59 3 rfl (v := (x4 + (-1 : Int32))) (by rfl) rfl (lv' := [(4, .int (x4 + (-1 : Int32))), (2, .long s0), (0, .ref (g_b X + 77)), (1, .int x1)]) rfl ?_
  refine G_ltv (fun v => [(4, .int v), (2, .long s0), (0, .ref (g_b X + 77)), (1, .int x1)]) (fun v1 => ?_)
  refine G_goto C dX11_likeliest_62 (tgt := 18) (by decide) ?_
  exact G_sub (hk18 x1 s0 v1 σ) [2, 3, 1, 0] rfl
set_option maxHeartbeats 4000000 in
set_option maxRecDepth 100000 in
theorem w_m_X11_likeliest_44 {X : g_X (Int32 × g_St)} (C : g_C X cX11_likeliest RX11 wsX11_likeliest rm_m_X11_likeliest 7) (q : g_qI X) (hA : g_ag L_m_X11_likeliest (g_n X) (g_T X)) (k18 : Int32 → Int64 → Int32 → g_St → Option (Int32 × g_St)) (hk18 : ∀ (x1 : Int32) (x2 : Int64) (x4 : Int32) (σ : g_St), G X 18 [(0, .ref (g_b X + 77)), (1, .int x1), (2, .long x2), (4, .int x4)] [] σ (k18 x1 x2 x4 σ)) (N : Nat) (x2 : Int64) (x4 : Int32) (x5 : Int64) (s0 : Int32) (σ : g_St) : G X 44 [(0, .ref (g_b X + 77)), (2, .long x2), (4, .int x4), (5, .long x5)] [.int s0] σ (m_X11_likeliest_44 k18 N x2 x4 x5 s0 σ) := by
  unfold m_X11_likeliest_44
  refine G_istore_n C dX11_likeliest_44 rfl rfl (lv' := [(1, .int s0), (0, .ref (g_b X + 77)), (2, .long x2), (4, .int x4), (5, .long x5)]) rfl ?_
  refine G_lload C dX11_likeliest_45 4 rfl ?_
  refine G_lload_n C dX11_likeliest_47 rfl 2 rfl ?_
  refine G_lcmp C dX11_likeliest_48 ?_
  refine G_if_lt C dX11_likeliest_49 (tgt := 57) (by decide) (fun c1 => ?_) (fun c1 => ?_)
  · refine G_lload_n C dX11_likeliest_57 rfl 2 rfl ?_
    exact G_sub (w_m_X11_likeliest_58 C q hA k18 hk18 N s0 x4 x2 σ) [1, 0, 3] rfl
  · refine G_lload C dX11_likeliest_52 4 rfl ?_
    refine G_goto C dX11_likeliest_54 (tgt := 58) (by decide) ?_
    exact G_sub (w_m_X11_likeliest_58 C q hA k18 hk18 N s0 x4 x5 σ) [1, 0, 3] rfl
set_option maxHeartbeats 4000000 in
set_option maxRecDepth 100000 in
theorem w_m_X11_likeliest_18 {X : g_X (Int32 × g_St)} (C : g_C X cX11_likeliest RX11 wsX11_likeliest rm_m_X11_likeliest 7) (q : g_qI X) (hA : g_ag L_m_X11_likeliest (g_n X) (g_T X)) (N : Nat) : ∀ (fu : Nat) (x1 : Int32) (x2 : Int64) (x4 : Int32) (σ : g_St), G X 18 [(0, .ref (g_b X + 77)), (1, .int x1), (2, .long x2), (4, .int x4)] [] σ (m_X11_likeliest_18 N fu x1 x2 x4 σ) := by
  have t77 := g_ag_at hA (c := 77) rfl tc77
  intro fu
  induction fu with
  | zero => intro x1 x2 x4 σ; exact G_none
  | succ fu ih =>
    intro x1 x2 x4 σ
    unfold m_X11_likeliest_18
    refine G_iload C dX11_likeliest_18 3 rfl ?_
    refine G_if_lt C dX11_likeliest_20 (tgt := 65) (by decide) (fun c1 => ?_) (fun c1 => ?_)
    · refine G_iload_n C dX11_likeliest_65 rfl 1 rfl ?_
      exact G_iret C q dX11_likeliest_66
    · refine G_aload_n C dX11_likeliest_23 rfl 0 rfl ?_
      refine G_iload C dX11_likeliest_24 3 rfl ?_
      refine G_callL (rest := []) (fun a ha => g_runV C (nargs := 1) (As := [.int x4]) (rest := []) gX11_likeliest_X11_guess rfl (by decide +kernel) rfl t77 rfl rfl rfl rfl dX11_likeliest_26 (k_m_X11_guess X.1.2.1 X.2.1 (g_n X) (g_T X) (g_ag_sub hA (by decide +kernel)) N x4 σ a ha)) (fun q2 => ?_)
      refine G_lstore C dX11_likeliest_29 rfl (lv' := [(5, .long q2.1), (0, .ref (g_b X + 77)), (1, .int x1), (2, .long x2), (4, .int x4)]) rfl ?_
      refine G_lload C dX11_likeliest_31 0 rfl ?_
      refine G_lload_n C dX11_likeliest_33 rfl 3 rfl ?_
      refine G_lcmp C dX11_likeliest_34 ?_
      refine G_if_lt C dX11_likeliest_35 (tgt := 43) (by decide) (fun c3 => ?_) (fun c3 => ?_)
      · refine G_iload_n C dX11_likeliest_43 rfl 2 rfl ?_
        exact G_sub (w_m_X11_likeliest_44 C q hA (m_X11_likeliest_18 N fu) ih N x2 x4 q2.1 x1 q2.2) [1, 3, 4, 0] rfl
      · refine G_iload C dX11_likeliest_38 4 rfl ?_
        refine G_goto C dX11_likeliest_40 (tgt := 44) (by decide) ?_
        exact G_sub (w_m_X11_likeliest_44 C q hA (m_X11_likeliest_18 N fu) ih N x2 x4 q2.1 x4 q2.2) [1, 3, 4, 0] rfl
set_option maxHeartbeats 4000000 in
set_option maxRecDepth 100000 in
theorem w_m_X11_likeliest_0 {X : g_X (Int32 × g_St)} (C : g_C X cX11_likeliest RX11 wsX11_likeliest rm_m_X11_likeliest 7) (q : g_qI X) (hA : g_ag L_m_X11_likeliest (g_n X) (g_T X)) (N : Nat) (σ : g_St) : G X 0 [(0, .ref (g_b X + 77))] [] σ (m_X11_likeliest N σ) := by
  have t77 := g_ag_at hA (c := 77) rfl tc77
  have t79 := g_ag_at hA (c := 79) rfl tc79
  unfold m_X11_likeliest
  refine G_iconst C dX11_likeliest_0 (v := -1) (by decide +kernel) ?_
  refine G_istore_n C dX11_likeliest_1 rfl rfl (lv' := [(1, .int (-1 : Int32)), (0, .ref (g_b X + 77))]) rfl ?_
  refine G_aload_n C dX11_likeliest_2 rfl 1 rfl ?_
  refine G_iconst C dX11_likeliest_3 (v := -1) (by decide +kernel) ?_
  refine G_callL (rest := []) (fun a ha => g_runV C (nargs := 1) (As := [.int (-1 : Int32)]) (rest := []) gX11_likeliest_X11_guess rfl (by decide +kernel) rfl t77 rfl rfl rfl rfl dX11_likeliest_4 (k_m_X11_guess X.1.2.1 X.2.1 (g_n X) (g_T X) (g_ag_sub hA (by decide +kernel)) N (-1 : Int32) σ a ha)) (fun q1 => ?_)
  refine G_lstore_n C dX11_likeliest_7 rfl rfl (lv' := [(2, .long q1.1), (1, .int (-1 : Int32)), (0, .ref (g_b X + 77))]) rfl ?_
  refine G_aload_n C dX11_likeliest_8 rfl 2 rfl ?_
  refine G_getR C f_X11_likeliest_13 t77 rfl dX11_likeliest_9 ?_
  refine G_iconst C dX11_likeliest_12 (v := 1) (by decide +kernel) ?_
  refine G_aldk C t79 (by decide +kernel) (k := 1) rfl dX11_likeliest_13 ?_
  refine G_iconst C dX11_likeliest_14 (v := 1) (by decide +kernel) ?_
  refine G_isub C dX11_likeliest_15 ?_
  refine G_lti (fun v2 => ?_)
  refine G_istore C dX11_likeliest_16 rfl (lv' := [(4, .int v2), (2, .long q1.1), (1, .int (-1 : Int32)), (0, .ref (g_b X + 77))]) rfl ?_
  exact G_sub (w_m_X11_likeliest_18 C q hA N N (-1 : Int32) q1.1 v2 q1.2) [3, 2, 1, 0] rfl
theorem k_m_X11_likeliest (l : Launch) (E : g_E) (n : Nat) (T : Nat → g_Sh) (hA : g_ag L_m_X11_likeliest n T) (N : Nat) (σ : g_St) (a : Int32 × g_St) (h : m_X11_likeliest N σ = some a) : Met l yX11_likeliest wsX11_likeliest rm_m_X11_likeliest (g_Pc E n T [.ref (E.2.1 + 77)] σ) (g_Qi E n T a) 0 0 (g_A E) :=
  g_metI (by decide +kernel) rfl rfl (Nat.le_of_ble_eq_true rfl) (fun M Qf C q => by rw [← h]; exact w_m_X11_likeliest_0 C q hA N σ)
def L_m_X11_candles : List Nat := [77, 79, 90]
abbrev rm_m_X11_candles : Room := { frames := 2, cells := 0, slots := 0, locals := 46 }
theorem f_X11_candles_116 : g_Fld wsX11_candles RX11 116 11 19 := ⟨RX11, TX11, 27, rfl, by decide +kernel, by decide, by decide +kernel⟩
theorem f_X11_candles_46 : g_Fld wsX11_candles RX11 46 11 20 := ⟨RX11, TX11, 27, rfl, by decide +kernel, by decide, by decide +kernel⟩
theorem p_X11_candles_116 : g_FldP wsX11_candles RX11 116 11 19 .int := ⟨RX11, TX11, 27, tyX11, rfl, by decide +kernel, by decide, by decide +kernel, tyX11_ok, nmX11, rfl, by decide +kernel⟩
theorem c_X11_candles_139 : Cond.constant RX11 139 (-1000000001) ∈ wsX11_candles := by decide +kernel
theorem c_X11_candles_225 : Cond.constantLong RX11 225 (999) ∈ wsX11_candles := by decide +kernel
theorem c_X11_candles_71 : Cond.constant RX11 71 (-1000000002) ∈ wsX11_candles := by decide +kernel
set_option maxHeartbeats 4000000 in
set_option maxRecDepth 100000 in
theorem w_m_X11_candles_0 {X : g_X (Int32 × g_St)} (C : g_C X cX11_candles RX11 wsX11_candles rm_m_X11_candles 3) (q : g_qI X) (hA : g_ag L_m_X11_candles (g_n X) (g_T X)) (x1 : Int32) (x2 : Int32) (σ : g_St) : G X 0 [(0, .ref (g_b X + 77)), (1, .int x1), (2, .int x2)] [] σ (m_X11_candles x1 x2 σ) := by
  have t77 := g_ag_at hA (c := 77) rfl tc77
  have t90 := g_ag_at hA (c := 90) rfl tc90
  unfold m_X11_candles
  refine G_aload_n C dX11_candles_0 rfl 0 rfl ?_
  refine G_iload_n C dX11_candles_1 rfl 1 rfl ?_
  refine G_callI (rest := []) (fun a ha => g_runV C (nargs := 1) (As := [.int x1]) (rest := []) gX11_candles_X11_isPerson rfl (by decide +kernel) rfl t77 rfl rfl rfl rfl dX11_candles_2 (k_m_X11_isPerson X.1.2.1 X.2.1 (g_n X) (g_T X) (g_ag_sub hA (by decide +kernel)) x1 σ a ha)) (fun q1 => ?_)
  refine G_if_ne C dX11_candles_5 (tgt := 11) (by decide) (fun c2 => ?_) (fun c2 => ?_)
  · refine G_ldc C dX11_candles_8 c_X11_candles_139 ?_
    exact G_iret C q dX11_candles_10
  · refine G_iload_n C dX11_candles_11 rfl 2 rfl ?_
    refine G_i2l C dX11_candles_12 ?_
    refine G_lconst C dX11_candles_13 (v := 0) (by decide +kernel) ?_
    refine G_ldc2 C dX11_candles_14 c_X11_candles_225 ?_
    refine G_callI (rest := []) (fun a ha => g_runS C (nargs := 3) (As := [.long (x2).toInt64, .long (0 : Int64), .long (999 : Int64)]) (rest := []) gX11_candles_X11_in rfl (by decide +kernel) rfl rfl rfl dX11_candles_17 (k_m_X11_in X.1.2.1 X.2.1 (g_n X) (g_T X) (g_ag_sub hA (by decide +kernel)) (x2).toInt64 (0 : Int64) (999 : Int64) q1.2 a ha)) (fun q3 => ?_)
    refine G_if_ne C dX11_candles_20 (tgt := 26) (by decide) (fun c4 => ?_) (fun c4 => ?_)
    · refine G_ldc C dX11_candles_23 c_X11_candles_71 ?_
      exact G_iret C q dX11_candles_25
    · refine G_aload_n C dX11_candles_26 rfl 0 rfl ?_
      refine G_getR C f_X11_candles_46 t77 rfl dX11_candles_27 ?_
      refine G_iload_n C dX11_candles_30 rfl 1 rfl ?_
      refine G_iload_n C dX11_candles_31 rfl 2 rfl ?_
      refine G_chk (fun h5 => ?_)
      refine G_ast C t90 h5 dX11_candles_32 ?_
      refine G_lts (fun σ6 => ?_)
      refine G_aload_n C dX11_candles_33 rfl 0 rfl ?_
      refine G_dup C dX11_candles_34 rfl ?_
      refine G_getI C f_X11_candles_116 t77 rfl dX11_candles_35 ?_
      refine G_iconst C dX11_candles_38 (v := 1) (by decide +kernel) ?_
      refine G_iload_n C dX11_candles_39 rfl 1 rfl ?_
      refine G_ishl C dX11_candles_40 ?_
      refine G_ior C dX11_candles_41 ?_
      refine G_putI C p_X11_candles_116 t77 rfl rfl rfl dX11_candles_42 ?_
      refine G_lts (fun σ7 => ?_)
      refine G_aload_n C dX11_candles_45 rfl 0 rfl ?_
      refine G_getI C f_X11_candles_116 t77 rfl dX11_candles_46 ?_
      exact G_iret C q dX11_candles_49
theorem k_m_X11_candles (l : Launch) (E : g_E) (n : Nat) (T : Nat → g_Sh) (hA : g_ag L_m_X11_candles n T) (x1 : Int32) (x2 : Int32) (σ : g_St) (a : Int32 × g_St) (h : m_X11_candles x1 x2 σ = some a) : Met l yX11_candles wsX11_candles rm_m_X11_candles (g_Pc E n T [.ref (E.2.1 + 77), .int x1, .int x2] σ) (g_Qi E n T a) 0 0 (g_A E) :=
  g_metI (by decide +kernel) rfl rfl (Nat.le_of_ble_eq_true rfl) (fun M Qf C q => by rw [← h]; exact w_m_X11_candles_0 C q hA x1 x2 σ)
