def L_m_X11_oddsWithout : List Nat := [77, 79, 84, 85]
abbrev rm_m_X11_oddsWithout : Room := { frames := 2, cells := 0, slots := 0, locals := 44 }
theorem f_X11_oddsWithout_13 : g_Fld wsX11_oddsWithout RX11 13 11 1 := ⟨RX11, TX11, 27, rfl, by decide +kernel, by decide, by decide +kernel⟩
theorem f_X11_oddsWithout_28 : g_Fld wsX11_oddsWithout RX11 28 11 12 := ⟨RX11, TX11, 27, rfl, by decide +kernel, by decide, by decide +kernel⟩
theorem f_X11_oddsWithout_31 : g_Fld wsX11_oddsWithout RX11 31 11 13 := ⟨RX11, TX11, 27, rfl, by decide +kernel, by decide, by decide +kernel⟩
theorem c_X11_oddsWithout_184 : Cond.constant RX11 184 (1000000000) ∈ wsX11_oddsWithout := by decide +kernel
set_option maxHeartbeats 4000000 in
set_option maxRecDepth 100000 in
theorem w_m_X11_oddsWithout_281 {X : g_X (Int32 × g_St)} (C : g_C X cX11_oddsWithout RX11 wsX11_oddsWithout rm_m_X11_oddsWithout 9) (q : g_qI X) (hA : g_ag L_m_X11_oddsWithout (g_n X) (g_T X)) (k239 : Int32 → Int32 → Int32 → Int32 → Int32 → g_St → Option (Int32 × g_St)) (hk239 : ∀ (x1 : Int32) (x2 : Int32) (x4 : Int32) (x5 : Int32) (x6 : Int32) (σ : g_St), G X 239 [(0, .ref (g_b X + 77)), (1, .int x1), (2, .int x2), (4, .int x4), (5, .int x5), (6, .int x6)] [] σ (k239 x1 x2 x4 x5 x6 σ)) (N : Nat) (x1 : Int32) (x2 : Int32) (x4 : Int32) (x6 : Int32) (s0 : Int32) (s1 : Int32) (σ : g_St) : G X 281 [(0, .ref (g_b X + 77)), (1, .int x1), (2, .int x2), (4, .int x4), (6, .int x6)] [.int s1, .int s0] σ (m_X11_oddsWithout_281 k239 N x1 x2 x4 x6 s0 s1 σ) := by
  unfold m_X11_oddsWithout_281
  refine G_iadd C dX11_oddsWithout_281 ?_
  refine G_lti (fun v1 => ?_)
  refine G_istore C dX11_oddsWithout_282 rfl (lv' := [(5, .int v1), (0, .ref (g_b X + 77)), (1, .int x1), (2, .int x2), (4, .int x4), (6, .int x6)]) rfl ?_
  refine G_iinc C dX11_oddsWithout_284 5 rfl (v := (x6 + (1 : Int32))) (by rfl) rfl (lv' := [(6, .int (x6 + (1 : Int32))), (5, .int v1), (0, .ref (g_b X + 77)), (1, .int x1), (2, .int x2), (4, .int x4)]) rfl ?_
  refine G_ltv (fun v => [(6, .int v), (5, .int v1), (0, .ref (g_b X + 77)), (1, .int x1), (2, .int x2), (4, .int x4)]) (fun v2 => ?_)
  refine G_goto C dX11_oddsWithout_287 (tgt := 239) (by decide) ?_
  exact G_sub (hk239 x1 x2 x4 v1 v2 σ) [2, 3, 4, 5, 1, 0] rfl
set_option maxHeartbeats 4000000 in
set_option maxRecDepth 100000 in
theorem w_m_X11_oddsWithout_239 {X : g_X (Int32 × g_St)} (C : g_C X cX11_oddsWithout RX11 wsX11_oddsWithout rm_m_X11_oddsWithout 9) (q : g_qI X) (hA : g_ag L_m_X11_oddsWithout (g_n X) (g_T X)) (N : Nat) : ∀ (fu : Nat) (x1 : Int32) (x2 : Int32) (x4 : Int32) (x5 : Int32) (x6 : Int32) (σ : g_St), G X 239 [(0, .ref (g_b X + 77)), (1, .int x1), (2, .int x2), (4, .int x4), (5, .int x5), (6, .int x6)] [] σ (m_X11_oddsWithout_239 N fu x1 x2 x4 x5 x6 σ) := by
  have t77 := g_ag_at hA (c := 77) rfl tc77
  have t79 := g_ag_at hA (c := 79) rfl tc79
  have t84 := g_ag_at hA (c := 84) rfl tc84
  intro fu
  induction fu with
  | zero => intro x1 x2 x4 x5 x6 σ; exact G_none
  | succ fu ih =>
    intro x1 x2 x4 x5 x6 σ
    unfold m_X11_oddsWithout_239
    refine G_iload C dX11_oddsWithout_239 5 rfl ?_
    refine G_iconst C dX11_oddsWithout_241 (v := 1) (by decide +kernel) ?_
    refine G_aload_n C dX11_oddsWithout_242 rfl 0 rfl ?_
    refine G_getR C f_X11_oddsWithout_13 t77 rfl dX11_oddsWithout_243 ?_
    refine G_iconst C dX11_oddsWithout_246 (v := 1) (by decide +kernel) ?_
    refine G_aldk C t79 (by decide +kernel) (k := 1) rfl dX11_oddsWithout_247 ?_
    refine G_ishl C dX11_oddsWithout_248 ?_
    refine G_icmp_ge C dX11_oddsWithout_249 (tgt := 290) (by decide) (fun c1 => ?_) (fun c1 => ?_)
    · refine G_iload C dX11_oddsWithout_290 4 rfl ?_
      exact G_iret C q dX11_oddsWithout_292
    · refine G_iload C dX11_oddsWithout_252 4 rfl ?_
      refine G_iload C dX11_oddsWithout_254 3 rfl ?_
      refine G_iload_n C dX11_oddsWithout_256 rfl 1 rfl ?_
      refine G_iand C dX11_oddsWithout_257 ?_
      refine G_iload C dX11_oddsWithout_258 5 rfl ?_
      refine G_iconst C dX11_oddsWithout_260 (v := -1) (by decide +kernel) ?_
      refine G_ixor C dX11_oddsWithout_261 ?_
      refine G_iand C dX11_oddsWithout_262 ?_
      refine G_callI (rest := [.int x5]) (fun a ha => g_runS C (nargs := 1) (As := [.int ((x4 &&& x1) &&& (x6 ^^^ (-1 : Int32)))]) (rest := [.int x5]) gX11_oddsWithout_X11_many rfl (by decide +kernel) rfl rfl rfl dX11_oddsWithout_263 (k_m_X11_many X.1.2.1 X.2.1 (g_n X) (g_T X) (g_ag_sub hA (by decide +kernel)) N ((x4 &&& x1) &&& (x6 ^^^ (-1 : Int32))) σ a ha)) (fun q2 => ?_)
      refine G_iload_n C dX11_oddsWithout_266 rfl 2 rfl ?_
      refine G_icmp_lt C dX11_oddsWithout_267 (tgt := 280) (by decide) (fun c3 => ?_) (fun c3 => ?_)
      · refine G_iconst C dX11_oddsWithout_280 (v := 0) (by decide +kernel) ?_
        exact G_sub (w_m_X11_oddsWithout_281 C q hA (m_X11_oddsWithout_239 N fu) ih N x1 x2 x4 x6 x5 (0 : Int32) q2.2) [0, 1, 2, 3, 5] rfl
      · refine G_aload_n C dX11_oddsWithout_270 rfl 0 rfl ?_
        refine G_getR C f_X11_oddsWithout_28 t77 rfl dX11_oddsWithout_271 ?_
        refine G_iload C dX11_oddsWithout_274 5 rfl ?_
        refine G_chk (fun h4 => ?_)
        refine G_ald C t84 h4 dX11_oddsWithout_276 ?_
        refine G_goto C dX11_oddsWithout_277 (tgt := 281) (by decide) ?_
        exact G_sub (w_m_X11_oddsWithout_281 C q hA (m_X11_oddsWithout_239 N fu) ih N x1 x2 x4 x6 x5 (q2.2.1 84 x6.toNatClampNeg) q2.2) [0, 1, 2, 3, 5] rfl
set_option maxHeartbeats 4000000 in
set_option maxRecDepth 100000 in
theorem w_m_X11_oddsWithout_199 {X : g_X (Int32 × g_St)} (C : g_C X cX11_oddsWithout RX11 wsX11_oddsWithout rm_m_X11_oddsWithout 9) (q : g_qI X) (hA : g_ag L_m_X11_oddsWithout (g_n X) (g_T X)) (k40 : Int32 → Int32 → Int32 → Int32 → Int32 → g_St → Option (Int32 × g_St)) (hk40 : ∀ (x1 : Int32) (x2 : Int32) (x3 : Int32) (x4 : Int32) (x5 : Int32) (σ : g_St), G X 40 [(0, .ref (g_b X + 77)), (1, .int x1), (2, .int x2), (3, .int x3), (4, .int x4), (5, .int x5)] [] σ (k40 x1 x2 x3 x4 x5 σ)) (N : Nat) : ∀ (fu : Nat) (x1 : Int32) (x2 : Int32) (x3 : Int32) (x4 : Int32) (x5 : Int32) (x6 : Int32) (σ : g_St), G X 199 [(0, .ref (g_b X + 77)), (1, .int x1), (2, .int x2), (3, .int x3), (4, .int x4), (5, .int x5), (6, .int x6)] [] σ (m_X11_oddsWithout_199 k40 N fu x1 x2 x3 x4 x5 x6 σ) := by
  have t77 := g_ag_at hA (c := 77) rfl tc77
  have t84 := g_ag_at hA (c := 84) rfl tc84
  have t85 := g_ag_at hA (c := 85) rfl tc85
  intro fu
  induction fu with
  | zero => intro x1 x2 x3 x4 x5 x6 σ; exact G_none
  | succ fu ih =>
    intro x1 x2 x3 x4 x5 x6 σ
    unfold m_X11_oddsWithout_199
    refine G_iload C dX11_oddsWithout_199 6 rfl ?_
    refine G_sipush C dX11_oddsWithout_201 (v := 256) (by decide +kernel) ?_
    refine G_icmp_ge C dX11_oddsWithout_204 (tgt := 227) (by decide) (fun c1 => ?_) (fun c1 => ?_)
    · refine G_iinc C dX11_oddsWithout_227 5 rfl (v := (x5 + (1 : Int32))) (by rfl) rfl (lv' := [(5, .int (x5 + (1 : Int32))), (0, .ref (g_b X + 77)), (1, .int x1), (2, .int x2), (3, .int x3), (4, .int x4), (6, .int x6)]) rfl ?_
      refine G_ltv (fun v => [(5, .int v), (0, .ref (g_b X + 77)), (1, .int x1), (2, .int x2), (3, .int x3), (4, .int x4), (6, .int x6)]) (fun v2 => ?_)
      refine G_goto C dX11_oddsWithout_230 (tgt := 40) (by decide) ?_
      exact G_sub (hk40 x1 x2 x3 x4 v2 σ) [1, 2, 3, 4, 5, 0] rfl
    · refine G_aload_n C dX11_oddsWithout_207 rfl 0 rfl ?_
      refine G_getR C f_X11_oddsWithout_28 t77 rfl dX11_oddsWithout_208 ?_
      refine G_iload C dX11_oddsWithout_211 6 rfl ?_
      refine G_aload_n C dX11_oddsWithout_213 rfl 0 rfl ?_
      refine G_getR C f_X11_oddsWithout_31 t77 rfl dX11_oddsWithout_214 ?_
      refine G_iload C dX11_oddsWithout_217 6 rfl ?_
      refine G_chk (fun h3 => ?_)
      refine G_ald C t85 h3 dX11_oddsWithout_219 ?_
      refine G_chk (fun h4 => ?_)
      refine G_ast C t84 h4 dX11_oddsWithout_220 ?_
      refine G_lts (fun σ5 => ?_)
      refine G_iinc C dX11_oddsWithout_221 6 rfl (v := (x6 + (1 : Int32))) (by rfl) rfl (lv' := [(6, .int (x6 + (1 : Int32))), (0, .ref (g_b X + 77)), (1, .int x1), (2, .int x2), (3, .int x3), (4, .int x4), (5, .int x5)]) rfl ?_
      refine G_ltv (fun v => [(6, .int v), (0, .ref (g_b X + 77)), (1, .int x1), (2, .int x2), (3, .int x3), (4, .int x4), (5, .int x5)]) (fun v6 => ?_)
      refine G_goto C dX11_oddsWithout_224 (tgt := 199) (by decide) ?_
      exact G_sub (ih x1 x2 x3 x4 x5 v6 σ5) [1, 2, 3, 4, 5, 6, 0] rfl
set_option maxHeartbeats 4000000 in
set_option maxRecDepth 100000 in
theorem w_m_X11_oddsWithout_190 {X : g_X (Int32 × g_St)} (C : g_C X cX11_oddsWithout RX11 wsX11_oddsWithout rm_m_X11_oddsWithout 9) (q : g_qI X) (hA : g_ag L_m_X11_oddsWithout (g_n X) (g_T X)) (k40 : Int32 → Int32 → Int32 → Int32 → Int32 → g_St → Option (Int32 × g_St)) (hk40 : ∀ (x1 : Int32) (x2 : Int32) (x3 : Int32) (x4 : Int32) (x5 : Int32) (σ : g_St), G X 40 [(0, .ref (g_b X + 77)), (1, .int x1), (2, .int x2), (3, .int x3), (4, .int x4), (5, .int x5)] [] σ (k40 x1 x2 x3 x4 x5 σ)) (k88 : Int32 → Int32 → Int32 → Int32 → Int32 → Int32 → g_St → Option (Int32 × g_St)) (hk88 : ∀ (x1 : Int32) (x2 : Int32) (x3 : Int32) (x4 : Int32) (x5 : Int32) (x6 : Int32) (σ : g_St), G X 88 [(0, .ref (g_b X + 77)), (1, .int x1), (2, .int x2), (3, .int x3), (4, .int x4), (5, .int x5), (6, .int x6)] [] σ (k88 x1 x2 x3 x4 x5 x6 σ)) (N : Nat) (x1 : Int32) (x2 : Int32) (x3 : Int32) (x4 : Int32) (x5 : Int32) (x6 : Int32) (σ : g_St) : G X 190 [(0, .ref (g_b X + 77)), (1, .int x1), (2, .int x2), (3, .int x3), (4, .int x4), (5, .int x5), (6, .int x6)] [] σ (m_X11_oddsWithout_190 k40 k88 N x1 x2 x3 x4 x5 x6 σ) := by
  unfold m_X11_oddsWithout_190
  refine G_iinc C dX11_oddsWithout_190 6 rfl (v := (x6 + (1 : Int32))) (by rfl) rfl (lv' := [(6, .int (x6 + (1 : Int32))), (0, .ref (g_b X + 77)), (1, .int x1), (2, .int x2), (3, .int x3), (4, .int x4), (5, .int x5)]) rfl ?_
  refine G_ltv (fun v => [(6, .int v), (0, .ref (g_b X + 77)), (1, .int x1), (2, .int x2), (3, .int x3), (4, .int x4), (5, .int x5)]) (fun v1 => ?_)
  refine G_goto C dX11_oddsWithout_193 (tgt := 88) (by decide) ?_
  exact G_sub (hk88 x1 x2 x3 x4 x5 v1 σ) [1, 2, 3, 4, 5, 6, 0] rfl
set_option maxHeartbeats 4000000 in
set_option maxRecDepth 100000 in
theorem w_m_X11_oddsWithout_184 {X : g_X (Int32 × g_St)} (C : g_C X cX11_oddsWithout RX11 wsX11_oddsWithout rm_m_X11_oddsWithout 9) (q : g_qI X) (hA : g_ag L_m_X11_oddsWithout (g_n X) (g_T X)) (k40 : Int32 → Int32 → Int32 → Int32 → Int32 → g_St → Option (Int32 × g_St)) (hk40 : ∀ (x1 : Int32) (x2 : Int32) (x3 : Int32) (x4 : Int32) (x5 : Int32) (σ : g_St), G X 40 [(0, .ref (g_b X + 77)), (1, .int x1), (2, .int x2), (3, .int x3), (4, .int x4), (5, .int x5)] [] σ (k40 x1 x2 x3 x4 x5 σ)) (k88 : Int32 → Int32 → Int32 → Int32 → Int32 → Int32 → g_St → Option (Int32 × g_St)) (hk88 : ∀ (x1 : Int32) (x2 : Int32) (x3 : Int32) (x4 : Int32) (x5 : Int32) (x6 : Int32) (σ : g_St), G X 88 [(0, .ref (g_b X + 77)), (1, .int x1), (2, .int x2), (3, .int x3), (4, .int x4), (5, .int x5), (6, .int x6)] [] σ (k88 x1 x2 x3 x4 x5 x6 σ)) (k112 : Int32 → Int32 → Int32 → Int32 → Int32 → Int32 → Int32 → Int32 → g_St → Option (Int32 × g_St)) (hk112 : ∀ (x1 : Int32) (x2 : Int32) (x3 : Int32) (x4 : Int32) (x5 : Int32) (x6 : Int32) (x7 : Int32) (x8 : Int32) (σ : g_St), G X 112 [(0, .ref (g_b X + 77)), (1, .int x1), (2, .int x2), (3, .int x3), (4, .int x4), (5, .int x5), (6, .int x6), (7, .int x7), (8, .int x8)] [] σ (k112 x1 x2 x3 x4 x5 x6 x7 x8 σ)) (N : Nat) (x1 : Int32) (x2 : Int32) (x3 : Int32) (x4 : Int32) (x5 : Int32) (x6 : Int32) (x7 : Int32) (x8 : Int32) (σ : g_St) : G X 184 [(0, .ref (g_b X + 77)), (1, .int x1), (2, .int x2), (3, .int x3), (4, .int x4), (5, .int x5), (6, .int x6), (7, .int x7), (8, .int x8)] [] σ (m_X11_oddsWithout_184 k40 k88 k112 N x1 x2 x3 x4 x5 x6 x7 x8 σ) := by
  unfold m_X11_oddsWithout_184
  refine G_iinc C dX11_oddsWithout_184 8 rfl (v := (x8 + (1 : Int32))) (by rfl) rfl (lv' := [(8, .int (x8 + (1 : Int32))), (0, .ref (g_b X + 77)), (1, .int x1), (2, .int x2), (3, .int x3), (4, .int x4), (5, .int x5), (6, .int x6), (7, .int x7)]) rfl ?_
  refine G_ltv (fun v => [(8, .int v), (0, .ref (g_b X + 77)), (1, .int x1), (2, .int x2), (3, .int x3), (4, .int x4), (5, .int x5), (6, .int x6), (7, .int x7)]) (fun v1 => ?_)
  refine G_goto C dX11_oddsWithout_187 (tgt := 112) (by decide) ?_
  exact G_sub (hk112 x1 x2 x3 x4 x5 x6 x7 v1 σ) [1, 2, 3, 4, 5, 6, 7, 8, 0] rfl
set_option maxHeartbeats 4000000 in
set_option maxRecDepth 100000 in
theorem w_m_X11_oddsWithout_112 {X : g_X (Int32 × g_St)} (C : g_C X cX11_oddsWithout RX11 wsX11_oddsWithout rm_m_X11_oddsWithout 9) (q : g_qI X) (hA : g_ag L_m_X11_oddsWithout (g_n X) (g_T X)) (k40 : Int32 → Int32 → Int32 → Int32 → Int32 → g_St → Option (Int32 × g_St)) (hk40 : ∀ (x1 : Int32) (x2 : Int32) (x3 : Int32) (x4 : Int32) (x5 : Int32) (σ : g_St), G X 40 [(0, .ref (g_b X + 77)), (1, .int x1), (2, .int x2), (3, .int x3), (4, .int x4), (5, .int x5)] [] σ (k40 x1 x2 x3 x4 x5 σ)) (k88 : Int32 → Int32 → Int32 → Int32 → Int32 → Int32 → g_St → Option (Int32 × g_St)) (hk88 : ∀ (x1 : Int32) (x2 : Int32) (x3 : Int32) (x4 : Int32) (x5 : Int32) (x6 : Int32) (σ : g_St), G X 88 [(0, .ref (g_b X + 77)), (1, .int x1), (2, .int x2), (3, .int x3), (4, .int x4), (5, .int x5), (6, .int x6)] [] σ (k88 x1 x2 x3 x4 x5 x6 σ)) (N : Nat) : ∀ (fu : Nat) (x1 : Int32) (x2 : Int32) (x3 : Int32) (x4 : Int32) (x5 : Int32) (x6 : Int32) (x7 : Int32) (x8 : Int32) (σ : g_St), G X 112 [(0, .ref (g_b X + 77)), (1, .int x1), (2, .int x2), (3, .int x3), (4, .int x4), (5, .int x5), (6, .int x6), (7, .int x7), (8, .int x8)] [] σ (m_X11_oddsWithout_112 k40 k88 N fu x1 x2 x3 x4 x5 x6 x7 x8 σ) := by
  have t77 := g_ag_at hA (c := 77) rfl tc77
  have t79 := g_ag_at hA (c := 79) rfl tc79
  have t84 := g_ag_at hA (c := 84) rfl tc84
  have t85 := g_ag_at hA (c := 85) rfl tc85
  intro fu
  induction fu with
  | zero => intro x1 x2 x3 x4 x5 x6 x7 x8 σ; exact G_none
  | succ fu ih =>
    intro x1 x2 x3 x4 x5 x6 x7 x8 σ
    unfold m_X11_oddsWithout_112
    refine G_iload C dX11_oddsWithout_112 8 rfl ?_
    refine G_aload_n C dX11_oddsWithout_114 rfl 0 rfl ?_
    refine G_getR C f_X11_oddsWithout_13 t77 rfl dX11_oddsWithout_115 ?_
    refine G_iconst C dX11_oddsWithout_118 (v := 1) (by decide +kernel) ?_
    refine G_aldk C t79 (by decide +kernel) (k := 1) rfl dX11_oddsWithout_119 ?_
    refine G_icmp_ge C dX11_oddsWithout_120 (tgt := 190) (by decide) (fun c1 => ?_) (fun c1 => ?_)
    · exact G_sub (w_m_X11_oddsWithout_190 C q hA k40 hk40 k88 hk88 N x1 x2 x3 x4 x5 x6 σ) [0, 1, 2, 3, 4, 5, 6] rfl
    · refine G_aload_n C dX11_oddsWithout_123 rfl 0 rfl ?_
      refine G_getR C f_X11_oddsWithout_28 t77 rfl dX11_oddsWithout_124 ?_
      refine G_iload C dX11_oddsWithout_127 6 rfl ?_
      refine G_chk (fun h2 => ?_)
      refine G_ald C t84 h2 dX11_oddsWithout_129 ?_
      refine G_if_le C dX11_oddsWithout_130 (tgt := 190) (by decide) (fun c3 => ?_) (fun c3 => ?_)
      · exact G_sub (w_m_X11_oddsWithout_190 C q hA k40 hk40 k88 hk88 N x1 x2 x3 x4 x5 x6 σ) [0, 1, 2, 3, 4, 5, 6] rfl
      · refine G_iload C dX11_oddsWithout_133 6 rfl ?_
        refine G_iload C dX11_oddsWithout_135 8 rfl ?_
        refine G_ishr C dX11_oddsWithout_137 ?_
        refine G_iconst C dX11_oddsWithout_138 (v := 1) (by decide +kernel) ?_
        refine G_iand C dX11_oddsWithout_139 ?_
        refine G_iconst C dX11_oddsWithout_140 (v := 1) (by decide +kernel) ?_
        refine G_icmp_ne C dX11_oddsWithout_141 (tgt := 184) (by decide) (fun c4 => ?_) (fun c4 => ?_)
        · refine G_aload_n C dX11_oddsWithout_144 rfl 0 rfl ?_
          refine G_getR C f_X11_oddsWithout_31 t77 rfl dX11_oddsWithout_145 ?_
          refine G_iload C dX11_oddsWithout_148 6 rfl ?_
          refine G_iconst C dX11_oddsWithout_150 (v := 1) (by decide +kernel) ?_
          refine G_iload C dX11_oddsWithout_151 8 rfl ?_
          refine G_ishl C dX11_oddsWithout_153 ?_
          refine G_iconst C dX11_oddsWithout_154 (v := -1) (by decide +kernel) ?_
          refine G_ixor C dX11_oddsWithout_155 ?_
          refine G_iand C dX11_oddsWithout_156 ?_
          refine G_lti (fun v5 => ?_)
          refine G_dup2 C dX11_oddsWithout_157 rfl rfl ?_
          refine G_chk (fun h6 => ?_)
          refine G_ald C t85 h6 dX11_oddsWithout_158 ?_
          refine G_lconst C dX11_oddsWithout_159 (v := 1) (by decide +kernel) ?_
          refine G_aload_n C dX11_oddsWithout_160 rfl 0 rfl ?_
          refine G_getR C f_X11_oddsWithout_28 t77 rfl dX11_oddsWithout_161 ?_
          refine G_iload C dX11_oddsWithout_164 6 rfl ?_
          refine G_chk (fun h7 => ?_)
          refine G_ald C t84 h7 dX11_oddsWithout_166 ?_
          refine G_i2l C dX11_oddsWithout_167 ?_
          refine G_lmul C dX11_oddsWithout_168 ?_
          refine G_aload_n C dX11_oddsWithout_169 rfl 0 rfl ?_
          refine G_iload C dX11_oddsWithout_170 8 rfl ?_
          refine G_callI (rest := [.long ((1 : Int64) * ((σ.1 84 x6.toNatClampNeg)).toInt64), .int (σ.1 85 v5.toNatClampNeg), .int v5, .ref (g_b X + 85)]) (fun a ha => g_runV C (nargs := 1) (As := [.int x8]) (rest := [.long ((1 : Int64) * ((σ.1 84 x6.toNatClampNeg)).toInt64), .int (σ.1 85 v5.toNatClampNeg), .int v5, .ref (g_b X + 85)]) gX11_oddsWithout_X11_weight rfl (by decide +kernel) rfl t77 rfl rfl rfl rfl dX11_oddsWithout_172 (k_m_X11_weight X.1.2.1 X.2.1 (g_n X) (g_T X) (g_ag_sub hA (by decide +kernel)) x8 σ a ha)) (fun q8 => ?_)
          refine G_i2l C dX11_oddsWithout_175 ?_
          refine G_lmul C dX11_oddsWithout_176 ?_
          refine G_iload C dX11_oddsWithout_177 7 rfl ?_
          refine G_i2l C dX11_oddsWithout_179 ?_
          refine G_chn (fun h9 => ?_)
          refine G_ldiv C dX11_oddsWithout_180 h9 ?_
          refine G_l2i C dX11_oddsWithout_181 ?_
          refine G_iadd C dX11_oddsWithout_182 ?_
          refine G_chk (fun h10 => ?_)
          refine G_ast C t85 h10 dX11_oddsWithout_183 ?_
          refine G_lts (fun σ11 => ?_)
          exact w_m_X11_oddsWithout_184 C q hA k40 hk40 k88 hk88 (m_X11_oddsWithout_112 k40 k88 N fu) ih N x1 x2 x3 x4 x5 x6 x7 x8 σ11
        · exact w_m_X11_oddsWithout_184 C q hA k40 hk40 k88 hk88 (m_X11_oddsWithout_112 k40 k88 N fu) ih N x1 x2 x3 x4 x5 x6 x7 x8 σ
set_option maxHeartbeats 4000000 in
set_option maxRecDepth 100000 in
theorem w_m_X11_oddsWithout_88 {X : g_X (Int32 × g_St)} (C : g_C X cX11_oddsWithout RX11 wsX11_oddsWithout rm_m_X11_oddsWithout 9) (q : g_qI X) (hA : g_ag L_m_X11_oddsWithout (g_n X) (g_T X)) (k40 : Int32 → Int32 → Int32 → Int32 → Int32 → g_St → Option (Int32 × g_St)) (hk40 : ∀ (x1 : Int32) (x2 : Int32) (x3 : Int32) (x4 : Int32) (x5 : Int32) (σ : g_St), G X 40 [(0, .ref (g_b X + 77)), (1, .int x1), (2, .int x2), (3, .int x3), (4, .int x4), (5, .int x5)] [] σ (k40 x1 x2 x3 x4 x5 σ)) (N : Nat) : ∀ (fu : Nat) (x1 : Int32) (x2 : Int32) (x3 : Int32) (x4 : Int32) (x5 : Int32) (x6 : Int32) (σ : g_St), G X 88 [(0, .ref (g_b X + 77)), (1, .int x1), (2, .int x2), (3, .int x3), (4, .int x4), (5, .int x5), (6, .int x6)] [] σ (m_X11_oddsWithout_88 k40 N fu x1 x2 x3 x4 x5 x6 σ) := by
  have t77 := g_ag_at hA (c := 77) rfl tc77
  have t79 := g_ag_at hA (c := 79) rfl tc79
  intro fu
  induction fu with
  | zero => intro x1 x2 x3 x4 x5 x6 σ; exact G_none
  | succ fu ih =>
    intro x1 x2 x3 x4 x5 x6 σ
    unfold m_X11_oddsWithout_88
    refine G_iload C dX11_oddsWithout_88 6 rfl ?_
    refine G_iconst C dX11_oddsWithout_90 (v := 1) (by decide +kernel) ?_
    refine G_aload_n C dX11_oddsWithout_91 rfl 0 rfl ?_
    refine G_getR C f_X11_oddsWithout_13 t77 rfl dX11_oddsWithout_92 ?_
    refine G_iconst C dX11_oddsWithout_95 (v := 1) (by decide +kernel) ?_
    refine G_aldk C t79 (by decide +kernel) (k := 1) rfl dX11_oddsWithout_96 ?_
    refine G_ishl C dX11_oddsWithout_97 ?_
    refine G_icmp_ge C dX11_oddsWithout_98 (tgt := 196) (by decide) (fun c1 => ?_) (fun c1 => ?_)
    · refine G_iconst C dX11_oddsWithout_196 (v := 0) (by decide +kernel) ?_
      refine G_istore C dX11_oddsWithout_197 rfl (lv' := [(6, .int (0 : Int32)), (0, .ref (g_b X + 77)), (1, .int x1), (2, .int x2), (3, .int x3), (4, .int x4), (5, .int x5)]) rfl ?_
      exact G_sub (w_m_X11_oddsWithout_199 C q hA k40 hk40 N N x1 x2 x3 x4 x5 (0 : Int32) σ) [1, 2, 3, 4, 5, 6, 0] rfl
    · refine G_aload_n C dX11_oddsWithout_101 rfl 0 rfl ?_
      refine G_iload C dX11_oddsWithout_102 6 rfl ?_
      refine G_callI (rest := []) (fun a ha => g_runV C (nargs := 1) (As := [.int x6]) (rest := []) gX11_oddsWithout_X11_weightOf rfl (by decide +kernel) rfl t77 rfl rfl rfl rfl dX11_oddsWithout_104 (k_m_X11_weightOf X.1.2.1 X.2.1 (g_n X) (g_T X) (g_ag_sub hA (by decide +kernel)) N x6 σ a ha)) (fun q2 => ?_)
      refine G_istore C dX11_oddsWithout_107 rfl (lv' := [(7, .int q2.1), (0, .ref (g_b X + 77)), (1, .int x1), (2, .int x2), (3, .int x3), (4, .int x4), (5, .int x5), (6, .int x6)]) rfl ?_
      refine G_iconst C dX11_oddsWithout_109 (v := 0) (by decide +kernel) ?_
      refine G_istore C dX11_oddsWithout_110 rfl (lv' := [(8, .int (0 : Int32)), (7, .int q2.1), (0, .ref (g_b X + 77)), (1, .int x1), (2, .int x2), (3, .int x3), (4, .int x4), (5, .int x5), (6, .int x6)]) rfl ?_
      exact G_sub (w_m_X11_oddsWithout_112 C q hA k40 hk40 (m_X11_oddsWithout_88 k40 N fu) ih N N x1 x2 x3 x4 x5 x6 q2.1 (0 : Int32) q2.2) [2, 3, 4, 5, 6, 7, 8, 1, 0] rfl
set_option maxHeartbeats 4000000 in
set_option maxRecDepth 100000 in
theorem w_m_X11_oddsWithout_78 {X : g_X (Int32 × g_St)} (C : g_C X cX11_oddsWithout RX11 wsX11_oddsWithout rm_m_X11_oddsWithout 9) (q : g_qI X) (hA : g_ag L_m_X11_oddsWithout (g_n X) (g_T X)) (k40 : Int32 → Int32 → Int32 → Int32 → Int32 → g_St → Option (Int32 × g_St)) (hk40 : ∀ (x1 : Int32) (x2 : Int32) (x3 : Int32) (x4 : Int32) (x5 : Int32) (σ : g_St), G X 40 [(0, .ref (g_b X + 77)), (1, .int x1), (2, .int x2), (3, .int x3), (4, .int x4), (5, .int x5)] [] σ (k40 x1 x2 x3 x4 x5 σ)) (k49 : Int32 → Int32 → Int32 → Int32 → Int32 → Int32 → g_St → Option (Int32 × g_St)) (hk49 : ∀ (x1 : Int32) (x2 : Int32) (x3 : Int32) (x4 : Int32) (x5 : Int32) (x6 : Int32) (σ : g_St), G X 49 [(0, .ref (g_b X + 77)), (1, .int x1), (2, .int x2), (3, .int x3), (4, .int x4), (5, .int x5), (6, .int x6)] [] σ (k49 x1 x2 x3 x4 x5 x6 σ)) (N : Nat) (x1 : Int32) (x2 : Int32) (x3 : Int32) (x4 : Int32) (x5 : Int32) (x6 : Int32) (s1 : Int32) (s2 : Int32) (σ : g_St) : G X 78 [(0, .ref (g_b X + 77)), (1, .int x1), (2, .int x2), (3, .int x3), (4, .int x4), (5, .int x5), (6, .int x6)] [.int s2, .int s1, .ref (g_b X + 85)] σ (m_X11_oddsWithout_78 k40 k49 N x1 x2 x3 x4 x5 x6 s1 s2 σ) := by
  have t85 := g_ag_at hA (c := 85) rfl tc85
  unfold m_X11_oddsWithout_78
  refine G_chk (fun h1 => ?_)
  refine G_ast C t85 h1 dX11_oddsWithout_78 ?_
  refine G_lts (fun σ2 => ?_)
  refine G_iinc C dX11_oddsWithout_79 6 rfl (v := (x6 + (1 : Int32))) (by rfl) rfl (lv' := [(6, .int (x6 + (1 : Int32))), (0, .ref (g_b X + 77)), (1, .int x1), (2, .int x2), (3, .int x3), (4, .int x4), (5, .int x5)]) rfl ?_
  refine G_ltv (fun v => [(6, .int v), (0, .ref (g_b X + 77)), (1, .int x1), (2, .int x2), (3, .int x3), (4, .int x4), (5, .int x5)]) (fun v3 => ?_)
  refine G_goto C dX11_oddsWithout_82 (tgt := 49) (by decide) ?_
  exact G_sub (hk49 x1 x2 x3 x4 x5 v3 σ2) [1, 2, 3, 4, 5, 6, 0] rfl
set_option maxHeartbeats 4000000 in
set_option maxRecDepth 100000 in
theorem w_m_X11_oddsWithout_49 {X : g_X (Int32 × g_St)} (C : g_C X cX11_oddsWithout RX11 wsX11_oddsWithout rm_m_X11_oddsWithout 9) (q : g_qI X) (hA : g_ag L_m_X11_oddsWithout (g_n X) (g_T X)) (k40 : Int32 → Int32 → Int32 → Int32 → Int32 → g_St → Option (Int32 × g_St)) (hk40 : ∀ (x1 : Int32) (x2 : Int32) (x3 : Int32) (x4 : Int32) (x5 : Int32) (σ : g_St), G X 40 [(0, .ref (g_b X + 77)), (1, .int x1), (2, .int x2), (3, .int x3), (4, .int x4), (5, .int x5)] [] σ (k40 x1 x2 x3 x4 x5 σ)) (N : Nat) : ∀ (fu : Nat) (x1 : Int32) (x2 : Int32) (x3 : Int32) (x4 : Int32) (x5 : Int32) (x6 : Int32) (σ : g_St), G X 49 [(0, .ref (g_b X + 77)), (1, .int x1), (2, .int x2), (3, .int x3), (4, .int x4), (5, .int x5), (6, .int x6)] [] σ (m_X11_oddsWithout_49 k40 N fu x1 x2 x3 x4 x5 x6 σ) := by
  have t77 := g_ag_at hA (c := 77) rfl tc77
  have t84 := g_ag_at hA (c := 84) rfl tc84
  intro fu
  induction fu with
  | zero => intro x1 x2 x3 x4 x5 x6 σ; exact G_none
  | succ fu ih =>
    intro x1 x2 x3 x4 x5 x6 σ
    unfold m_X11_oddsWithout_49
    refine G_iload C dX11_oddsWithout_49 6 rfl ?_
    refine G_sipush C dX11_oddsWithout_51 (v := 256) (by decide +kernel) ?_
    refine G_icmp_ge C dX11_oddsWithout_54 (tgt := 85) (by decide) (fun c1 => ?_) (fun c1 => ?_)
    · refine G_iconst C dX11_oddsWithout_85 (v := 1) (by decide +kernel) ?_
      refine G_istore C dX11_oddsWithout_86 rfl (lv' := [(6, .int (1 : Int32)), (0, .ref (g_b X + 77)), (1, .int x1), (2, .int x2), (3, .int x3), (4, .int x4), (5, .int x5)]) rfl ?_
      exact G_sub (w_m_X11_oddsWithout_88 C q hA k40 hk40 N N x1 x2 x3 x4 x5 (1 : Int32) σ) [1, 2, 3, 4, 5, 6, 0] rfl
    · refine G_aload_n C dX11_oddsWithout_57 rfl 0 rfl ?_
      refine G_getR C f_X11_oddsWithout_31 t77 rfl dX11_oddsWithout_58 ?_
      refine G_iload C dX11_oddsWithout_61 6 rfl ?_
      refine G_iload C dX11_oddsWithout_63 6 rfl ?_
      refine G_if_ne C dX11_oddsWithout_65 (tgt := 77) (by decide) (fun c2 => ?_) (fun c2 => ?_)
      · refine G_aload_n C dX11_oddsWithout_68 rfl 0 rfl ?_
        refine G_getR C f_X11_oddsWithout_28 t77 rfl dX11_oddsWithout_69 ?_
        refine G_iconst C dX11_oddsWithout_72 (v := 0) (by decide +kernel) ?_
        refine G_aldk C t84 (by decide +kernel) (k := 0) rfl dX11_oddsWithout_73 ?_
        refine G_goto C dX11_oddsWithout_74 (tgt := 78) (by decide) ?_
        exact w_m_X11_oddsWithout_78 C q hA k40 hk40 (m_X11_oddsWithout_49 k40 N fu) ih N x1 x2 x3 x4 x5 x6 x6 (σ.1 84 0) σ
      · refine G_iconst C dX11_oddsWithout_77 (v := 0) (by decide +kernel) ?_
        exact w_m_X11_oddsWithout_78 C q hA k40 hk40 (m_X11_oddsWithout_49 k40 N fu) ih N x1 x2 x3 x4 x5 x6 x6 (0 : Int32) σ
set_option maxHeartbeats 4000000 in
set_option maxRecDepth 100000 in
theorem w_m_X11_oddsWithout_40 {X : g_X (Int32 × g_St)} (C : g_C X cX11_oddsWithout RX11 wsX11_oddsWithout rm_m_X11_oddsWithout 9) (q : g_qI X) (hA : g_ag L_m_X11_oddsWithout (g_n X) (g_T X)) (N : Nat) : ∀ (fu : Nat) (x1 : Int32) (x2 : Int32) (x3 : Int32) (x4 : Int32) (x5 : Int32) (σ : g_St), G X 40 [(0, .ref (g_b X + 77)), (1, .int x1), (2, .int x2), (3, .int x3), (4, .int x4), (5, .int x5)] [] σ (m_X11_oddsWithout_40 N fu x1 x2 x3 x4 x5 σ) := by
  intro fu
  induction fu with
  | zero => intro x1 x2 x3 x4 x5 σ; exact G_none
  | succ fu ih =>
    intro x1 x2 x3 x4 x5 σ
    unfold m_X11_oddsWithout_40
    refine G_iload C dX11_oddsWithout_40 5 rfl ?_
    refine G_iload_n C dX11_oddsWithout_42 rfl 3 rfl ?_
    refine G_icmp_ge C dX11_oddsWithout_43 (tgt := 233) (by decide) (fun c1 => ?_) (fun c1 => ?_)
    · refine G_iconst C dX11_oddsWithout_233 (v := 0) (by decide +kernel) ?_
      refine G_istore C dX11_oddsWithout_234 rfl (lv' := [(5, .int (0 : Int32)), (0, .ref (g_b X + 77)), (1, .int x1), (2, .int x2), (3, .int x3), (4, .int x4)]) rfl ?_
      refine G_iconst C dX11_oddsWithout_236 (v := 0) (by decide +kernel) ?_
      refine G_istore C dX11_oddsWithout_237 rfl (lv' := [(6, .int (0 : Int32)), (5, .int (0 : Int32)), (0, .ref (g_b X + 77)), (1, .int x1), (2, .int x2), (3, .int x3), (4, .int x4)]) rfl ?_
      exact G_sub (w_m_X11_oddsWithout_239 C q hA N N x1 x2 x4 (0 : Int32) (0 : Int32) σ) [2, 3, 4, 6, 1, 0] rfl
    · refine G_iconst C dX11_oddsWithout_46 (v := 0) (by decide +kernel) ?_
      refine G_istore C dX11_oddsWithout_47 rfl (lv' := [(6, .int (0 : Int32)), (0, .ref (g_b X + 77)), (1, .int x1), (2, .int x2), (3, .int x3), (4, .int x4), (5, .int x5)]) rfl ?_
      exact G_sub (w_m_X11_oddsWithout_49 C q hA (m_X11_oddsWithout_40 N fu) ih N N x1 x2 x3 x4 x5 (0 : Int32) σ) [1, 2, 3, 4, 5, 6, 0] rfl
set_option maxHeartbeats 4000000 in
set_option maxRecDepth 100000 in
theorem w_m_X11_oddsWithout_30 {X : g_X (Int32 × g_St)} (C : g_C X cX11_oddsWithout RX11 wsX11_oddsWithout rm_m_X11_oddsWithout 9) (q : g_qI X) (hA : g_ag L_m_X11_oddsWithout (g_n X) (g_T X)) (k3 : Int32 → Int32 → Int32 → Int32 → Int32 → g_St → Option (Int32 × g_St)) (hk3 : ∀ (x1 : Int32) (x2 : Int32) (x3 : Int32) (x4 : Int32) (x5 : Int32) (σ : g_St), G X 3 [(0, .ref (g_b X + 77)), (1, .int x1), (2, .int x2), (3, .int x3), (4, .int x4), (5, .int x5)] [] σ (k3 x1 x2 x3 x4 x5 σ)) (N : Nat) (x1 : Int32) (x2 : Int32) (x3 : Int32) (x4 : Int32) (x5 : Int32) (s1 : Int32) (s2 : Int32) (σ : g_St) : G X 30 [(0, .ref (g_b X + 77)), (1, .int x1), (2, .int x2), (3, .int x3), (4, .int x4), (5, .int x5)] [.int s2, .int s1, .ref (g_b X + 84)] σ (m_X11_oddsWithout_30 k3 N x1 x2 x3 x4 x5 s1 s2 σ) := by
  have t84 := g_ag_at hA (c := 84) rfl tc84
  unfold m_X11_oddsWithout_30
  refine G_chk (fun h1 => ?_)
  refine G_ast C t84 h1 dX11_oddsWithout_30 ?_
  refine G_lts (fun σ2 => ?_)
  refine G_iinc C dX11_oddsWithout_31 5 rfl (v := (x5 + (1 : Int32))) (by rfl) rfl (lv' := [(5, .int (x5 + (1 : Int32))), (0, .ref (g_b X + 77)), (1, .int x1), (2, .int x2), (3, .int x3), (4, .int x4)]) rfl ?_
  refine G_ltv (fun v => [(5, .int v), (0, .ref (g_b X + 77)), (1, .int x1), (2, .int x2), (3, .int x3), (4, .int x4)]) (fun v3 => ?_)
  refine G_goto C dX11_oddsWithout_34 (tgt := 3) (by decide) ?_
  exact G_sub (hk3 x1 x2 x3 x4 v3 σ2) [1, 2, 3, 4, 5, 0] rfl
set_option maxHeartbeats 4000000 in
set_option maxRecDepth 100000 in
theorem w_m_X11_oddsWithout_3 {X : g_X (Int32 × g_St)} (C : g_C X cX11_oddsWithout RX11 wsX11_oddsWithout rm_m_X11_oddsWithout 9) (q : g_qI X) (hA : g_ag L_m_X11_oddsWithout (g_n X) (g_T X)) (N : Nat) : ∀ (fu : Nat) (x1 : Int32) (x2 : Int32) (x3 : Int32) (x4 : Int32) (x5 : Int32) (σ : g_St), G X 3 [(0, .ref (g_b X + 77)), (1, .int x1), (2, .int x2), (3, .int x3), (4, .int x4), (5, .int x5)] [] σ (m_X11_oddsWithout_3 N fu x1 x2 x3 x4 x5 σ) := by
  have t77 := g_ag_at hA (c := 77) rfl tc77
  intro fu
  induction fu with
  | zero => intro x1 x2 x3 x4 x5 σ; exact G_none
  | succ fu ih =>
    intro x1 x2 x3 x4 x5 σ
    unfold m_X11_oddsWithout_3
    refine G_iload C dX11_oddsWithout_3 5 rfl ?_
    refine G_sipush C dX11_oddsWithout_5 (v := 256) (by decide +kernel) ?_
    refine G_icmp_ge C dX11_oddsWithout_8 (tgt := 37) (by decide) (fun c1 => ?_) (fun c1 => ?_)
    · refine G_iconst C dX11_oddsWithout_37 (v := 0) (by decide +kernel) ?_
      refine G_istore C dX11_oddsWithout_38 rfl (lv' := [(5, .int (0 : Int32)), (0, .ref (g_b X + 77)), (1, .int x1), (2, .int x2), (3, .int x3), (4, .int x4)]) rfl ?_
      exact G_sub (w_m_X11_oddsWithout_40 C q hA N N x1 x2 x3 x4 (0 : Int32) σ) [1, 2, 3, 4, 5, 0] rfl
    · refine G_aload_n C dX11_oddsWithout_11 rfl 0 rfl ?_
      refine G_getR C f_X11_oddsWithout_28 t77 rfl dX11_oddsWithout_12 ?_
      refine G_iload C dX11_oddsWithout_15 5 rfl ?_
      refine G_iload C dX11_oddsWithout_17 5 rfl ?_
      refine G_iload C dX11_oddsWithout_19 4 rfl ?_
      refine G_icmp_ne C dX11_oddsWithout_21 (tgt := 29) (by decide) (fun c2 => ?_) (fun c2 => ?_)
      · refine G_ldc C dX11_oddsWithout_24 c_X11_oddsWithout_184 ?_
        refine G_goto C dX11_oddsWithout_26 (tgt := 30) (by decide) ?_
        exact w_m_X11_oddsWithout_30 C q hA (m_X11_oddsWithout_3 N fu) ih N x1 x2 x3 x4 x5 x5 (1000000000 : Int32) σ
      · refine G_iconst C dX11_oddsWithout_29 (v := 0) (by decide +kernel) ?_
        exact w_m_X11_oddsWithout_30 C q hA (m_X11_oddsWithout_3 N fu) ih N x1 x2 x3 x4 x5 x5 (0 : Int32) σ
set_option maxHeartbeats 4000000 in
set_option maxRecDepth 100000 in
theorem w_m_X11_oddsWithout_0 {X : g_X (Int32 × g_St)} (C : g_C X cX11_oddsWithout RX11 wsX11_oddsWithout rm_m_X11_oddsWithout 9) (q : g_qI X) (hA : g_ag L_m_X11_oddsWithout (g_n X) (g_T X)) (N : Nat) (x1 : Int32) (x2 : Int32) (x3 : Int32) (x4 : Int32) (σ : g_St) : G X 0 [(0, .ref (g_b X + 77)), (1, .int x1), (2, .int x2), (3, .int x3), (4, .int x4)] [] σ (m_X11_oddsWithout N x1 x2 x3 x4 σ) := by
  unfold m_X11_oddsWithout
  refine G_iconst C dX11_oddsWithout_0 (v := 0) (by decide +kernel) ?_
  refine G_istore C dX11_oddsWithout_1 rfl (lv' := [(5, .int (0 : Int32)), (0, .ref (g_b X + 77)), (1, .int x1), (2, .int x2), (3, .int x3), (4, .int x4)]) rfl ?_
  exact G_sub (w_m_X11_oddsWithout_3 C q hA N N x1 x2 x3 x4 (0 : Int32) σ) [1, 2, 3, 4, 5, 0] rfl
theorem k_m_X11_oddsWithout (l : Launch) (E : g_E) (n : Nat) (T : Nat → g_Sh) (hA : g_ag L_m_X11_oddsWithout n T) (N : Nat) (x1 : Int32) (x2 : Int32) (x3 : Int32) (x4 : Int32) (σ : g_St) (a : Int32 × g_St) (h : m_X11_oddsWithout N x1 x2 x3 x4 σ = some a) : Met l yX11_oddsWithout wsX11_oddsWithout rm_m_X11_oddsWithout (g_Pc E n T [.ref (E.2.1 + 77), .int x1, .int x2, .int x3, .int x4] σ) (g_Qi E n T a) 0 0 (g_A E) :=
  g_metI (by decide +kernel) rfl rfl (Nat.le_of_ble_eq_true rfl) (fun M Qf C q => by rw [← h]; exact w_m_X11_oddsWithout_0 C q hA N x1 x2 x3 x4 σ)
def L_m_X11_oddsOf : List Nat := [77, 79, 83, 84, 85]
abbrev rm_m_X11_oddsOf : Room := { frames := 3, cells := 0, slots := 0, locals := 72 }
theorem f_X11_oddsOf_13 : g_Fld wsX11_oddsOf RX11 13 11 1 := ⟨RX11, TX11, 27, rfl, by decide +kernel, by decide, by decide +kernel⟩
set_option maxHeartbeats 4000000 in
set_option maxRecDepth 100000 in
theorem w_m_X11_oddsOf_0 {X : g_X (Int32 × g_St)} (C : g_C X cX11_oddsOf RX11 wsX11_oddsOf rm_m_X11_oddsOf 5) (q : g_qI X) (hA : g_ag L_m_X11_oddsOf (g_n X) (g_T X)) (N : Nat) (x1 : Int32) (x2 : Int32) (x3 : Int32) (x4 : Int32) (σ : g_St) : G X 0 [(0, .ref (g_b X + 77)), (1, .int x1), (2, .int x2), (3, .int x3), (4, .int x4)] [] σ (m_X11_oddsOf N x1 x2 x3 x4 σ) := by
  have t77 := g_ag_at hA (c := 77) rfl tc77
  have t79 := g_ag_at hA (c := 79) rfl tc79
  unfold m_X11_oddsOf
  refine G_aload_n C dX11_oddsOf_0 rfl 0 rfl ?_
  refine G_getR C f_X11_oddsOf_13 t77 rfl dX11_oddsOf_1 ?_
  refine G_iconst C dX11_oddsOf_4 (v := 3) (by decide +kernel) ?_
  refine G_aldk C t79 (by decide +kernel) (k := 3) rfl dX11_oddsOf_5 ?_
  refine G_iconst C dX11_oddsOf_6 (v := 1) (by decide +kernel) ?_
  refine G_icmp_ne C dX11_oddsOf_7 (tgt := 20) (by decide) (fun c1 => ?_) (fun c1 => ?_)
  · refine G_aload_n C dX11_oddsOf_10 rfl 0 rfl ?_
    refine G_iload_n C dX11_oddsOf_11 rfl 1 rfl ?_
    refine G_iload_n C dX11_oddsOf_12 rfl 2 rfl ?_
    refine G_iload_n C dX11_oddsOf_13 rfl 3 rfl ?_
    refine G_callI (rest := []) (fun a ha => g_runV C (nargs := 3) (As := [.int x1, .int x2, .int x3]) (rest := []) gX11_oddsOf_X11_oddsWith rfl (by decide +kernel) rfl t77 rfl rfl rfl rfl dX11_oddsOf_14 (k_m_X11_oddsWith X.1.2.1 X.2.1 (g_n X) (g_T X) (g_ag_sub hA (by decide +kernel)) N x1 x2 x3 σ a ha)) (fun q3 => ?_)
    refine G_goto C dX11_oddsOf_17 (tgt := 29) (by decide) ?_
    exact G_iret C q dX11_oddsOf_29
  · refine G_aload_n C dX11_oddsOf_20 rfl 0 rfl ?_
    refine G_iload_n C dX11_oddsOf_21 rfl 1 rfl ?_
    refine G_iload_n C dX11_oddsOf_22 rfl 2 rfl ?_
    refine G_iload_n C dX11_oddsOf_23 rfl 3 rfl ?_
    refine G_iload C dX11_oddsOf_24 4 rfl ?_
    refine G_callI (rest := []) (fun a ha => g_runV C (nargs := 4) (As := [.int x1, .int x2, .int x3, .int x4]) (rest := []) gX11_oddsOf_X11_oddsWithout rfl (by decide +kernel) rfl t77 rfl rfl rfl rfl dX11_oddsOf_26 (k_m_X11_oddsWithout X.1.2.1 X.2.1 (g_n X) (g_T X) (g_ag_sub hA (by decide +kernel)) N x1 x2 x3 x4 σ a ha)) (fun q2 => ?_)
    exact G_iret C q dX11_oddsOf_29
theorem k_m_X11_oddsOf (l : Launch) (E : g_E) (n : Nat) (T : Nat → g_Sh) (hA : g_ag L_m_X11_oddsOf n T) (N : Nat) (x1 : Int32) (x2 : Int32) (x3 : Int32) (x4 : Int32) (σ : g_St) (a : Int32 × g_St) (h : m_X11_oddsOf N x1 x2 x3 x4 σ = some a) : Met l yX11_oddsOf wsX11_oddsOf rm_m_X11_oddsOf (g_Pc E n T [.ref (E.2.1 + 77), .int x1, .int x2, .int x3, .int x4] σ) (g_Qi E n T a) 0 0 (g_A E) :=
  g_metI (by decide +kernel) rfl rfl (Nat.le_of_ble_eq_true rfl) (fun M Qf C q => by rw [← h]; exact w_m_X11_oddsOf_0 C q hA N x1 x2 x3 x4 σ)
def L_m_X11_rest : List Nat := [77, 79, 81]
abbrev rm_m_X11_rest : Room := { frames := 0, cells := 0, slots := 0, locals := 0 }
theorem f_X11_rest_13 : g_Fld wsX11_rest RX11 13 11 1 := ⟨RX11, TX11, 27, rfl, by decide +kernel, by decide, by decide +kernel⟩
theorem f_X11_rest_19 : g_Fld wsX11_rest RX11 19 11 7 := ⟨RX11, TX11, 27, rfl, by decide +kernel, by decide, by decide +kernel⟩
set_option maxHeartbeats 4000000 in
set_option maxRecDepth 100000 in
theorem w_m_X11_rest_0 {X : g_X (Int32 × g_St)} (C : g_C X cX11_rest RX11 wsX11_rest rm_m_X11_rest 1) (q : g_qI X) (hA : g_ag L_m_X11_rest (g_n X) (g_T X)) (σ : g_St) : G X 0 [(0, .ref (g_b X + 77))] [] σ (m_X11_rest σ) := by
  have t77 := g_ag_at hA (c := 77) rfl tc77
  have t79 := g_ag_at hA (c := 79) rfl tc79
  have t81 := g_ag_at hA (c := 81) rfl tc81
  unfold m_X11_rest
  refine G_aload_n C dX11_rest_0 rfl 0 rfl ?_
  refine G_getR C f_X11_rest_13 t77 rfl dX11_rest_1 ?_
  refine G_iconst C dX11_rest_4 (v := 2) (by decide +kernel) ?_
  refine G_aldk C t79 (by decide +kernel) (k := 2) rfl dX11_rest_5 ?_
  refine G_aload_n C dX11_rest_6 rfl 0 rfl ?_
  refine G_getR C f_X11_rest_19 t77 rfl dX11_rest_7 ?_
  refine G_iconst C dX11_rest_10 (v := 1) (by decide +kernel) ?_
  refine G_aldk C t81 (by decide +kernel) (k := 1) rfl dX11_rest_11 ?_
  refine G_isub C dX11_rest_12 ?_
  exact G_iret C q dX11_rest_13
theorem k_m_X11_rest (l : Launch) (E : g_E) (n : Nat) (T : Nat → g_Sh) (hA : g_ag L_m_X11_rest n T) (σ : g_St) (a : Int32 × g_St) (h : m_X11_rest σ = some a) : Met l yX11_rest wsX11_rest rm_m_X11_rest (g_Pc E n T [.ref (E.2.1 + 77)] σ) (g_Qi E n T a) 0 0 (g_A E) :=
  g_metI (by decide +kernel) rfl rfl (Nat.le_of_ble_eq_true rfl) (fun M Qf C q => by rw [← h]; exact w_m_X11_rest_0 C q hA σ)
def L_m_X11_odds : List Nat := [77, 79, 81, 83, 84, 85]
abbrev rm_m_X11_odds : Room := { frames := 4, cells := 0, slots := 0, locals := 96 }
theorem f_X11_odds_19 : g_Fld wsX11_odds RX11 19 11 7 := ⟨RX11, TX11, 27, rfl, by decide +kernel, by decide, by decide +kernel⟩
theorem c_X11_odds_139 : Cond.constant RX11 139 (-1000000001) ∈ wsX11_odds := by decide +kernel
theorem c_X11_odds_188 : Cond.constantLong RX11 188 (8) ∈ wsX11_odds := by decide +kernel
theorem c_X11_odds_71 : Cond.constant RX11 71 (-1000000002) ∈ wsX11_odds := by decide +kernel
set_option maxHeartbeats 4000000 in
set_option maxRecDepth 100000 in
theorem w_m_X11_odds_0 {X : g_X (Int32 × g_St)} (C : g_C X cX11_odds RX11 wsX11_odds rm_m_X11_odds 3) (q : g_qI X) (hA : g_ag L_m_X11_odds (g_n X) (g_T X)) (N : Nat) (x1 : Int32) (x2 : Int32) (σ : g_St) : G X 0 [(0, .ref (g_b X + 77)), (1, .int x1), (2, .int x2)] [] σ (m_X11_odds N x1 x2 σ) := by
  have t77 := g_ag_at hA (c := 77) rfl tc77
  have t81 := g_ag_at hA (c := 81) rfl tc81
  unfold m_X11_odds
  refine G_aload_n C dX11_odds_0 rfl 0 rfl ?_
  refine G_iload_n C dX11_odds_1 rfl 1 rfl ?_
  refine G_callI (rest := []) (fun a ha => g_runV C (nargs := 1) (As := [.int x1]) (rest := []) gX11_odds_X11_isPerson rfl (by decide +kernel) rfl t77 rfl rfl rfl rfl dX11_odds_2 (k_m_X11_isPerson X.1.2.1 X.2.1 (g_n X) (g_T X) (g_ag_sub hA (by decide +kernel)) x1 σ a ha)) (fun q1 => ?_)
  refine G_if_ne C dX11_odds_5 (tgt := 11) (by decide) (fun c2 => ?_) (fun c2 => ?_)
  · refine G_ldc C dX11_odds_8 c_X11_odds_139 ?_
    exact G_iret C q dX11_odds_10
  · refine G_iload_n C dX11_odds_11 rfl 2 rfl ?_
    refine G_i2l C dX11_odds_12 ?_
    refine G_lconst C dX11_odds_13 (v := 0) (by decide +kernel) ?_
    refine G_ldc2 C dX11_odds_14 c_X11_odds_188 ?_
    refine G_callI (rest := []) (fun a ha => g_runS C (nargs := 3) (As := [.long (x2).toInt64, .long (0 : Int64), .long (8 : Int64)]) (rest := []) gX11_odds_X11_in rfl (by decide +kernel) rfl rfl rfl dX11_odds_17 (k_m_X11_in X.1.2.1 X.2.1 (g_n X) (g_T X) (g_ag_sub hA (by decide +kernel)) (x2).toInt64 (0 : Int64) (8 : Int64) q1.2 a ha)) (fun q3 => ?_)
    refine G_if_eq C dX11_odds_20 (tgt := 46) (by decide) (fun c4 => ?_) (fun c4 => ?_)
    · refine G_ldc C dX11_odds_46 c_X11_odds_71 ?_
      exact G_iret C q dX11_odds_48
    · refine G_aload_n C dX11_odds_23 rfl 0 rfl ?_
      refine G_aload_n C dX11_odds_24 rfl 0 rfl ?_
      refine G_iload_n C dX11_odds_25 rfl 1 rfl ?_
      refine G_callI (rest := [.ref (g_b X + 77)]) (fun a ha => g_runV C (nargs := 1) (As := [.int x1]) (rest := [.ref (g_b X + 77)]) gX11_odds_X11_own rfl (by decide +kernel) rfl t77 rfl rfl rfl rfl dX11_odds_26 (k_m_X11_own X.1.2.1 X.2.1 (g_n X) (g_T X) (g_ag_sub hA (by decide +kernel)) N x1 q3.2 a ha)) (fun q5 => ?_)
      refine G_iload_n C dX11_odds_29 rfl 2 rfl ?_
      refine G_aload_n C dX11_odds_30 rfl 0 rfl ?_
      refine G_callI (rest := [.int x2, .int q5.1, .ref (g_b X + 77)]) (fun a ha => g_runV C (nargs := 0) (As := []) (rest := [.int x2, .int q5.1, .ref (g_b X + 77)]) gX11_odds_X11_rest rfl (by decide +kernel) rfl t77 rfl rfl rfl rfl dX11_odds_31 (k_m_X11_rest X.1.2.1 X.2.1 (g_n X) (g_T X) (g_ag_sub hA (by decide +kernel)) q5.2 a ha)) (fun q6 => ?_)
      refine G_aload_n C dX11_odds_34 rfl 0 rfl ?_
      refine G_getR C f_X11_odds_19 t77 rfl dX11_odds_35 ?_
      refine G_iconst C dX11_odds_38 (v := 2) (by decide +kernel) ?_
      refine G_aldk C t81 (by decide +kernel) (k := 2) rfl dX11_odds_39 ?_
      refine G_callI (rest := []) (fun a ha => g_runV C (nargs := 4) (As := [.int q5.1, .int x2, .int q6.1, .int (q6.2.1 81 2)]) (rest := []) gX11_odds_X11_oddsOf rfl (by decide +kernel) rfl t77 rfl rfl rfl rfl dX11_odds_40 (k_m_X11_oddsOf X.1.2.1 X.2.1 (g_n X) (g_T X) (g_ag_sub hA (by decide +kernel)) N q5.1 x2 q6.1 (q6.2.1 81 2) q6.2 a ha)) (fun q7 => ?_)
      refine G_goto C dX11_odds_43 (tgt := 48) (by decide) ?_
      exact G_iret C q dX11_odds_48
theorem k_m_X11_odds (l : Launch) (E : g_E) (n : Nat) (T : Nat → g_Sh) (hA : g_ag L_m_X11_odds n T) (N : Nat) (x1 : Int32) (x2 : Int32) (σ : g_St) (a : Int32 × g_St) (h : m_X11_odds N x1 x2 σ = some a) : Met l yX11_odds wsX11_odds rm_m_X11_odds (g_Pc E n T [.ref (E.2.1 + 77), .int x1, .int x2] σ) (g_Qi E n T a) 0 0 (g_A E) :=
  g_metI (by decide +kernel) rfl rfl (Nat.le_of_ble_eq_true rfl) (fun M Qf C q => by rw [← h]; exact w_m_X11_odds_0 C q hA N x1 x2 σ)
def L_m_X11_never : List Nat := [77, 79, 81, 83, 84, 85]
abbrev rm_m_X11_never : Room := { frames := 4, cells := 0, slots := 0, locals := 96 }
theorem f_X11_never_13 : g_Fld wsX11_never RX11 13 11 1 := ⟨RX11, TX11, 27, rfl, by decide +kernel, by decide, by decide +kernel⟩
theorem c_X11_never_139 : Cond.constant RX11 139 (-1000000001) ∈ wsX11_never := by decide +kernel
theorem c_X11_never_169 : Cond.constantLong RX11 169 (99) ∈ wsX11_never := by decide +kernel
theorem c_X11_never_184 : Cond.constant RX11 184 (1000000000) ∈ wsX11_never := by decide +kernel
theorem c_X11_never_196 : Cond.constantLong RX11 196 (1000000000) ∈ wsX11_never := by decide +kernel
theorem c_X11_never_71 : Cond.constant RX11 71 (-1000000002) ∈ wsX11_never := by decide +kernel
set_option maxHeartbeats 4000000 in
set_option maxRecDepth 100000 in
theorem w_m_X11_never_59 {X : g_X (Int32 × g_St)} (C : g_C X cX11_never RX11 wsX11_never rm_m_X11_never 8) (q : g_qI X) (hA : g_ag L_m_X11_never (g_n X) (g_T X)) (N : Nat) : ∀ (fu : Nat) (x2 : Int32) (x3 : Int64) (x5 : Int64) (x7 : Int32) (σ : g_St), G X 59 [(2, .int x2), (3, .long x3), (5, .long x5), (7, .int x7)] [] σ (m_X11_never_59 N fu x2 x3 x5 x7 σ) := by
  intro fu
  induction fu with
  | zero => intro x2 x3 x5 x7 σ; exact G_none
  | succ fu ih =>
    intro x2 x3 x5 x7 σ
    unfold m_X11_never_59
    refine G_iload C dX11_never_59 3 rfl ?_
    refine G_iload_n C dX11_never_61 rfl 0 rfl ?_
    refine G_icmp_ge C dX11_never_62 (tgt := 81) (by decide) (fun c1 => ?_) (fun c1 => ?_)
    · refine G_lload C dX11_never_81 2 rfl ?_
      refine G_l2i C dX11_never_83 ?_
      exact G_iret C q dX11_never_84
    · refine G_lload C dX11_never_65 2 rfl ?_
      refine G_lload_n C dX11_never_67 rfl 1 rfl ?_
      refine G_lmul C dX11_never_68 ?_
      refine G_ldc2 C dX11_never_69 c_X11_never_196 ?_
      refine G_ldiv C dX11_never_72 (by decide) ?_
      refine G_ltl (fun v2 => ?_)
      refine G_lstore C dX11_never_73 rfl (lv' := [(5, .long v2), (2, .int x2), (3, .long x3), (7, .int x7)]) rfl ?_
      refine G_iinc C dX11_never_75 3 rfl (v := (x7 + (1 : Int32))) (by rfl) rfl (lv' := [(7, .int (x7 + (1 : Int32))), (5, .long v2), (2, .int x2), (3, .long x3)]) rfl ?_
      refine G_ltv (fun v => [(7, .int v), (5, .long v2), (2, .int x2), (3, .long x3)]) (fun v3 => ?_)
      refine G_goto C dX11_never_78 (tgt := 59) (by decide) ?_
      exact G_sub (ih x2 x3 v2 v3 σ) [2, 3, 1, 0] rfl
set_option maxHeartbeats 4000000 in
set_option maxRecDepth 100000 in
theorem w_m_X11_never_0 {X : g_X (Int32 × g_St)} (C : g_C X cX11_never RX11 wsX11_never rm_m_X11_never 8) (q : g_qI X) (hA : g_ag L_m_X11_never (g_n X) (g_T X)) (N : Nat) (x1 : Int32) (x2 : Int32) (σ : g_St) : G X 0 [(0, .ref (g_b X + 77)), (1, .int x1), (2, .int x2)] [] σ (m_X11_never N x1 x2 σ) := by
  have t77 := g_ag_at hA (c := 77) rfl tc77
  have t79 := g_ag_at hA (c := 79) rfl tc79
  unfold m_X11_never
  refine G_aload_n C dX11_never_0 rfl 0 rfl ?_
  refine G_iload_n C dX11_never_1 rfl 1 rfl ?_
  refine G_callI (rest := []) (fun a ha => g_runV C (nargs := 1) (As := [.int x1]) (rest := []) gX11_never_X11_isPerson rfl (by decide +kernel) rfl t77 rfl rfl rfl rfl dX11_never_2 (k_m_X11_isPerson X.1.2.1 X.2.1 (g_n X) (g_T X) (g_ag_sub hA (by decide +kernel)) x1 σ a ha)) (fun q1 => ?_)
  refine G_if_ne C dX11_never_5 (tgt := 11) (by decide) (fun c2 => ?_) (fun c2 => ?_)
  · refine G_ldc C dX11_never_8 c_X11_never_139 ?_
    exact G_iret C q dX11_never_10
  · refine G_iload_n C dX11_never_11 rfl 2 rfl ?_
    refine G_i2l C dX11_never_12 ?_
    refine G_lconst C dX11_never_13 (v := 1) (by decide +kernel) ?_
    refine G_ldc2 C dX11_never_14 c_X11_never_169 ?_
    refine G_callI (rest := []) (fun a ha => g_runS C (nargs := 3) (As := [.long (x2).toInt64, .long (1 : Int64), .long (99 : Int64)]) (rest := []) gX11_never_X11_in rfl (by decide +kernel) rfl rfl rfl dX11_never_17 (k_m_X11_in X.1.2.1 X.2.1 (g_n X) (g_T X) (g_ag_sub hA (by decide +kernel)) (x2).toInt64 (1 : Int64) (99 : Int64) q1.2 a ha)) (fun q3 => ?_)
    refine G_if_ne C dX11_never_20 (tgt := 26) (by decide) (fun c4 => ?_) (fun c4 => ?_)
    · refine G_ldc C dX11_never_23 c_X11_never_71 ?_
      exact G_iret C q dX11_never_25
    · refine G_ldc C dX11_never_26 c_X11_never_184 ?_
      refine G_aload_n C dX11_never_28 rfl 0 rfl ?_
      refine G_aload_n C dX11_never_29 rfl 0 rfl ?_
      refine G_iload_n C dX11_never_30 rfl 1 rfl ?_
      refine G_callI (rest := [.ref (g_b X + 77), .int (1000000000 : Int32)]) (fun a ha => g_runV C (nargs := 1) (As := [.int x1]) (rest := [.ref (g_b X + 77), .int (1000000000 : Int32)]) gX11_never_X11_own rfl (by decide +kernel) rfl t77 rfl rfl rfl rfl dX11_never_31 (k_m_X11_own X.1.2.1 X.2.1 (g_n X) (g_T X) (g_ag_sub hA (by decide +kernel)) N x1 q3.2 a ha)) (fun q5 => ?_)
      refine G_iconst C dX11_never_34 (v := 1) (by decide +kernel) ?_
      refine G_aload_n C dX11_never_35 rfl 0 rfl ?_
      refine G_getR C f_X11_never_13 t77 rfl dX11_never_36 ?_
      refine G_iconst C dX11_never_39 (v := 2) (by decide +kernel) ?_
      refine G_aldk C t79 (by decide +kernel) (k := 2) rfl dX11_never_40 ?_
      refine G_aload_n C dX11_never_41 rfl 0 rfl ?_
      refine G_callI (rest := [.int (q5.2.1 79 2), .int (1 : Int32), .int q5.1, .ref (g_b X + 77), .int (1000000000 : Int32)]) (fun a ha => g_runV C (nargs := 0) (As := []) (rest := [.int (q5.2.1 79 2), .int (1 : Int32), .int q5.1, .ref (g_b X + 77), .int (1000000000 : Int32)]) gX11_never_X11_all rfl (by decide +kernel) rfl t77 rfl rfl rfl rfl dX11_never_42 (k_m_X11_all X.1.2.1 X.2.1 (g_n X) (g_T X) (g_ag_sub hA (by decide +kernel)) q5.2 a ha)) (fun q6 => ?_)
      refine G_callI (rest := [.int (1000000000 : Int32)]) (fun a ha => g_runV C (nargs := 4) (As := [.int q5.1, .int (1 : Int32), .int (q5.2.1 79 2), .int q6.1]) (rest := [.int (1000000000 : Int32)]) gX11_never_X11_oddsOf rfl (by decide +kernel) rfl t77 rfl rfl rfl rfl dX11_never_45 (k_m_X11_oddsOf X.1.2.1 X.2.1 (g_n X) (g_T X) (g_ag_sub hA (by decide +kernel)) N q5.1 (1 : Int32) (q5.2.1 79 2) q6.1 q6.2 a ha)) (fun q7 => ?_)
      refine G_isub C dX11_never_48 ?_
      refine G_i2l C dX11_never_49 ?_
      refine G_ltl (fun v8 => ?_)
      refine G_lstore_n C dX11_never_50 rfl rfl (lv' := [(3, .long v8), (0, .ref (g_b X + 77)), (1, .int x1), (2, .int x2)]) rfl ?_
      refine G_ldc2 C dX11_never_51 c_X11_never_196 ?_
      refine G_lstore C dX11_never_54 rfl (lv' := [(5, .long (1000000000 : Int64)), (3, .long v8), (0, .ref (g_b X + 77)), (1, .int x1), (2, .int x2)]) rfl ?_
      refine G_iconst C dX11_never_56 (v := 0) (by decide +kernel) ?_
      refine G_istore C dX11_never_57 rfl (lv' := [(7, .int (0 : Int32)), (5, .long (1000000000 : Int64)), (3, .long v8), (0, .ref (g_b X + 77)), (1, .int x1), (2, .int x2)]) rfl ?_
      exact G_sub (w_m_X11_never_59 C q hA N N x2 v8 (1000000000 : Int64) (0 : Int32) q7.2) [5, 2, 1, 0] rfl
theorem k_m_X11_never (l : Launch) (E : g_E) (n : Nat) (T : Nat → g_Sh) (hA : g_ag L_m_X11_never n T) (N : Nat) (x1 : Int32) (x2 : Int32) (σ : g_St) (a : Int32 × g_St) (h : m_X11_never N x1 x2 σ = some a) : Met l yX11_never wsX11_never rm_m_X11_never (g_Pc E n T [.ref (E.2.1 + 77), .int x1, .int x2] σ) (g_Qi E n T a) 0 0 (g_A E) :=
  g_metI (by decide +kernel) rfl rfl (Nat.le_of_ble_eq_true rfl) (fun M Qf C q => by rw [← h]; exact w_m_X11_never_0 C q hA N x1 x2 σ)
def L_m_X11_buy : List Nat := [77, 79, 81, 83, 84, 85]
abbrev rm_m_X11_buy : Room := { frames := 4, cells := 0, slots := 0, locals := 96 }
theorem f_X11_buy_13 : g_Fld wsX11_buy RX11 13 11 1 := ⟨RX11, TX11, 27, rfl, by decide +kernel, by decide, by decide +kernel⟩
theorem f_X11_buy_19 : g_Fld wsX11_buy RX11 19 11 7 := ⟨RX11, TX11, 27, rfl, by decide +kernel, by decide, by decide +kernel⟩
theorem c_X11_buy_139 : Cond.constant RX11 139 (-1000000001) ∈ wsX11_buy := by decide +kernel
theorem c_X11_buy_149 : Cond.constantLong RX11 149 (3) ∈ wsX11_buy := by decide +kernel
theorem c_X11_buy_198 : Cond.constantLong RX11 198 (100) ∈ wsX11_buy := by decide +kernel
theorem c_X11_buy_200 : Cond.constant RX11 200 (10000000) ∈ wsX11_buy := by decide +kernel
theorem c_X11_buy_71 : Cond.constant RX11 71 (-1000000002) ∈ wsX11_buy := by decide +kernel
set_option maxHeartbeats 4000000 in
set_option maxRecDepth 100000 in
theorem w_m_X11_buy_324 {X : g_X (Int32 × g_St)} (C : g_C X cX11_buy RX11 wsX11_buy rm_m_X11_buy 12) (q : g_qI X) (hA : g_ag L_m_X11_buy (g_n X) (g_T X)) (k79 : Int32 → Int32 → Int32 → Int32 → Int32 → Int32 → Int32 → g_St → Option (Int32 × g_St)) (hk79 : ∀ (x1 : Int32) (x3 : Int32) (x4 : Int32) (x5 : Int32) (x6 : Int32) (x7 : Int32) (x8 : Int32) (σ : g_St), G X 79 [(0, .ref (g_b X + 77)), (1, .int x1), (3, .int x3), (4, .int x4), (5, .int x5), (6, .int x6), (7, .int x7), (8, .int x8)] [] σ (k79 x1 x3 x4 x5 x6 x7 x8 σ)) (N : Nat) (x1 : Int32) (x3 : Int32) (x4 : Int32) (x5 : Int32) (x6 : Int32) (x7 : Int32) (x8 : Int32) (σ : g_St) : G X 324 [(0, .ref (g_b X + 77)), (1, .int x1), (3, .int x3), (4, .int x4), (5, .int x5), (6, .int x6), (7, .int x7), (8, .int x8)] [] σ (m_X11_buy_324 k79 N x1 x3 x4 x5 x6 x7 x8 σ) := by
  unfold m_X11_buy_324
  refine G_iinc C dX11_buy_324 7 rfl (v := (x8 + (1 : Int32))) (by rfl) rfl (lv' := [(8, .int (x8 + (1 : Int32))), (0, .ref (g_b X + 77)), (1, .int x1), (3, .int x3), (4, .int x4), (5, .int x5), (6, .int x6), (7, .int x7)]) rfl ?_
  refine G_ltv (fun v => [(8, .int v), (0, .ref (g_b X + 77)), (1, .int x1), (3, .int x3), (4, .int x4), (5, .int x5), (6, .int x6), (7, .int x7)]) (fun v1 => ?_)
  refine G_goto C dX11_buy_327 (tgt := 79) (by decide) ?_
  exact G_sub (hk79 x1 x3 x4 x5 x6 x7 v1 σ) [1, 2, 3, 4, 5, 6, 7, 0] rfl
set_option maxHeartbeats 4000000 in
set_option maxRecDepth 100000 in
theorem w_m_X11_buy_316 {X : g_X (Int32 × g_St)} (C : g_C X cX11_buy RX11 wsX11_buy rm_m_X11_buy 12) (q : g_qI X) (hA : g_ag L_m_X11_buy (g_n X) (g_T X)) (k79 : Int32 → Int32 → Int32 → Int32 → Int32 → Int32 → Int32 → g_St → Option (Int32 × g_St)) (hk79 : ∀ (x1 : Int32) (x3 : Int32) (x4 : Int32) (x5 : Int32) (x6 : Int32) (x7 : Int32) (x8 : Int32) (σ : g_St), G X 79 [(0, .ref (g_b X + 77)), (1, .int x1), (3, .int x3), (4, .int x4), (5, .int x5), (6, .int x6), (7, .int x7), (8, .int x8)] [] σ (k79 x1 x3 x4 x5 x6 x7 x8 σ)) (N : Nat) (x1 : Int32) (x3 : Int32) (x4 : Int32) (x5 : Int32) (x8 : Int32) (x9 : Int32) (σ : g_St) : G X 316 [(0, .ref (g_b X + 77)), (1, .int x1), (3, .int x3), (4, .int x4), (5, .int x5), (8, .int x8), (9, .int x9)] [] σ (m_X11_buy_316 k79 N x1 x3 x4 x5 x8 x9 σ) := by
  unfold m_X11_buy_316
  refine G_iload C dX11_buy_316 5 rfl ?_
  refine G_istore C dX11_buy_318 rfl (lv' := [(6, .int x8), (0, .ref (g_b X + 77)), (1, .int x1), (3, .int x3), (4, .int x4), (5, .int x5), (8, .int x8), (9, .int x9)]) rfl ?_
  refine G_iload C dX11_buy_320 7 rfl ?_
  refine G_istore C dX11_buy_322 rfl (lv' := [(7, .int x9), (6, .int x8), (0, .ref (g_b X + 77)), (1, .int x1), (3, .int x3), (4, .int x4), (5, .int x5), (8, .int x8), (9, .int x9)]) rfl ?_
  exact G_sub (w_m_X11_buy_324 C q hA k79 hk79 N x1 x3 x4 x5 x8 x9 x8 σ) [2, 3, 4, 5, 6, 1, 0, 7] rfl
set_option maxHeartbeats 4000000 in
set_option maxRecDepth 100000 in
theorem w_m_X11_buy_309 {X : g_X (Int32 × g_St)} (C : g_C X cX11_buy RX11 wsX11_buy rm_m_X11_buy 12) (q : g_qI X) (hA : g_ag L_m_X11_buy (g_n X) (g_T X)) (k79 : Int32 → Int32 → Int32 → Int32 → Int32 → Int32 → Int32 → g_St → Option (Int32 × g_St)) (hk79 : ∀ (x1 : Int32) (x3 : Int32) (x4 : Int32) (x5 : Int32) (x6 : Int32) (x7 : Int32) (x8 : Int32) (σ : g_St), G X 79 [(0, .ref (g_b X + 77)), (1, .int x1), (3, .int x3), (4, .int x4), (5, .int x5), (6, .int x6), (7, .int x7), (8, .int x8)] [] σ (k79 x1 x3 x4 x5 x6 x7 x8 σ)) (N : Nat) (x1 : Int32) (x3 : Int32) (x4 : Int32) (x5 : Int32) (x6 : Int32) (x7 : Int32) (x8 : Int32) (x9 : Int32) (s0 : Int32) (σ : g_St) : G X 309 [(0, .ref (g_b X + 77)), (1, .int x1), (3, .int x3), (4, .int x4), (5, .int x5), (6, .int x6), (7, .int x7), (8, .int x8), (9, .int x9)] [.int s0] σ (m_X11_buy_309 k79 N x1 x3 x4 x5 x6 x7 x8 x9 s0 σ) := by
  unfold m_X11_buy_309
  refine G_ldc C dX11_buy_309 c_X11_buy_200 ?_
  refine G_iload_n C dX11_buy_311 rfl 2 rfl ?_
  refine G_imul C dX11_buy_312 ?_
  refine G_icmp_lt C dX11_buy_313 (tgt := 324) (by decide) (fun c1 => ?_) (fun c1 => ?_)
  · exact G_sub (w_m_X11_buy_324 C q hA k79 hk79 N x1 x3 x4 x5 x6 x7 x8 σ) [0, 1, 2, 3, 4, 5, 6, 7] rfl
  · exact G_sub (w_m_X11_buy_316 C q hA k79 hk79 N x1 x3 x4 x5 x8 x9 σ) [0, 1, 2, 3, 4, 7, 8] rfl
set_option maxHeartbeats 4000000 in
set_option maxRecDepth 100000 in
theorem w_m_X11_buy_257 {X : g_X (Int32 × g_St)} (C : g_C X cX11_buy RX11 wsX11_buy rm_m_X11_buy 12) (q : g_qI X) (hA : g_ag L_m_X11_buy (g_n X) (g_T X)) (k79 : Int32 → Int32 → Int32 → Int32 → Int32 → Int32 → Int32 → g_St → Option (Int32 × g_St)) (hk79 : ∀ (x1 : Int32) (x3 : Int32) (x4 : Int32) (x5 : Int32) (x6 : Int32) (x7 : Int32) (x8 : Int32) (σ : g_St), G X 79 [(0, .ref (g_b X + 77)), (1, .int x1), (3, .int x3), (4, .int x4), (5, .int x5), (6, .int x6), (7, .int x7), (8, .int x8)] [] σ (k79 x1 x3 x4 x5 x6 x7 x8 σ)) (N : Nat) (x1 : Int32) (x3 : Int32) (x4 : Int32) (x5 : Int32) (x6 : Int32) (x7 : Int32) (x8 : Int32) (x9 : Int32) (x10 : Int32) (s0 : Int32) (σ : g_St) : G X 257 [(0, .ref (g_b X + 77)), (1, .int x1), (3, .int x3), (4, .int x4), (5, .int x5), (6, .int x6), (7, .int x7), (8, .int x8), (9, .int x9), (10, .int x10)] [.int s0] σ (m_X11_buy_257 k79 N x1 x3 x4 x5 x6 x7 x8 x9 x10 s0 σ) := by
  have t77 := g_ag_at hA (c := 77) rfl tc77
  have t81 := g_ag_at hA (c := 81) rfl tc81
  unfold m_X11_buy_257
  refine G_istore C dX11_buy_257 rfl (lv' := [(11, .int s0), (0, .ref (g_b X + 77)), (1, .int x1), (3, .int x3), (4, .int x4), (5, .int x5), (6, .int x6), (7, .int x7), (8, .int x8), (9, .int x9), (10, .int x10)]) rfl ?_
  refine G_iload C dX11_buy_259 10 rfl ?_
  refine G_if_eq C dX11_buy_261 (tgt := 324) (by decide) (fun c1 => ?_) (fun c1 => ?_)
  · exact G_sub (w_m_X11_buy_324 C q hA k79 hk79 N x1 x3 x4 x5 x6 x7 x8 σ) [1, 2, 3, 4, 5, 6, 7, 8] rfl
  · refine G_iload C dX11_buy_264 0 rfl ?_
    refine G_if_eq C dX11_buy_266 (tgt := 324) (by decide) (fun c2 => ?_) (fun c2 => ?_)
    · exact G_sub (w_m_X11_buy_324 C q hA k79 hk79 N x1 x3 x4 x5 x6 x7 x8 σ) [1, 2, 3, 4, 5, 6, 7, 8] rfl
    · refine G_iload C dX11_buy_269 5 rfl ?_
      refine G_if_le C dX11_buy_271 (tgt := 316) (by decide) (fun c3 => ?_) (fun c3 => ?_)
      · exact G_sub (w_m_X11_buy_316 C q hA k79 hk79 N x1 x3 x4 x5 x8 x9 σ) [1, 2, 3, 4, 5, 8, 9] rfl
      · refine G_iload C dX11_buy_274 5 rfl ?_
        refine G_bipush C dX11_buy_276 (v := 8) (by decide +kernel) ?_
        refine G_icmp_le C dX11_buy_278 (tgt := 285) (by decide) (fun c4 => ?_) (fun c4 => ?_)
        · refine G_aload_n C dX11_buy_285 rfl 1 rfl ?_
          refine G_aload_n C dX11_buy_286 rfl 1 rfl ?_
          refine G_iload_n C dX11_buy_287 rfl 2 rfl ?_
          refine G_callI (rest := [.ref (g_b X + 77)]) (fun a ha => g_runV C (nargs := 1) (As := [.int x1]) (rest := [.ref (g_b X + 77)]) gX11_buy_X11_own rfl (by decide +kernel) rfl t77 rfl rfl rfl rfl dX11_buy_288 (k_m_X11_own X.1.2.1 X.2.1 (g_n X) (g_T X) (g_ag_sub hA (by decide +kernel)) N x1 σ a ha)) (fun q5 => ?_)
          refine G_iload C dX11_buy_291 8 rfl ?_
          refine G_ior C dX11_buy_293 ?_
          refine G_iload C dX11_buy_294 5 rfl ?_
          refine G_aload_n C dX11_buy_296 rfl 1 rfl ?_
          refine G_callI (rest := [.int x5, .int (q5.1 ||| x8), .ref (g_b X + 77)]) (fun a ha => g_runV C (nargs := 0) (As := []) (rest := [.int x5, .int (q5.1 ||| x8), .ref (g_b X + 77)]) gX11_buy_X11_rest rfl (by decide +kernel) rfl t77 rfl rfl rfl rfl dX11_buy_297 (k_m_X11_rest X.1.2.1 X.2.1 (g_n X) (g_T X) (g_ag_sub hA (by decide +kernel)) q5.2 a ha)) (fun q6 => ?_)
          refine G_aload_n C dX11_buy_300 rfl 1 rfl ?_
          refine G_getR C f_X11_buy_19 t77 rfl dX11_buy_301 ?_
          refine G_iconst C dX11_buy_304 (v := 2) (by decide +kernel) ?_
          refine G_aldk C t81 (by decide +kernel) (k := 2) rfl dX11_buy_305 ?_
          refine G_callI (rest := []) (fun a ha => g_runV C (nargs := 4) (As := [.int (q5.1 ||| x8), .int x5, .int q6.1, .int (q6.2.1 81 2)]) (rest := []) gX11_buy_X11_oddsOf rfl (by decide +kernel) rfl t77 rfl rfl rfl rfl dX11_buy_306 (k_m_X11_oddsOf X.1.2.1 X.2.1 (g_n X) (g_T X) (g_ag_sub hA (by decide +kernel)) N (q5.1 ||| x8) x5 q6.1 (q6.2.1 81 2) q6.2 a ha)) (fun q7 => ?_)
          exact G_sub (w_m_X11_buy_309 C q hA k79 hk79 N x1 x3 x4 x5 x6 x7 x8 x9 q7.1 q7.2) [1, 2, 3, 4, 5, 6, 7, 8, 9] rfl
        · refine G_iconst C dX11_buy_281 (v := 0) (by decide +kernel) ?_
          refine G_goto C dX11_buy_282 (tgt := 309) (by decide) ?_
          exact G_sub (w_m_X11_buy_309 C q hA k79 hk79 N x1 x3 x4 x5 x6 x7 x8 x9 (0 : Int32) σ) [1, 2, 3, 4, 5, 6, 7, 8, 9] rfl
set_option maxHeartbeats 4000000 in
set_option maxRecDepth 100000 in
theorem w_m_X11_buy_252 {X : g_X (Int32 × g_St)} (C : g_C X cX11_buy RX11 wsX11_buy rm_m_X11_buy 12) (q : g_qI X) (hA : g_ag L_m_X11_buy (g_n X) (g_T X)) (k79 : Int32 → Int32 → Int32 → Int32 → Int32 → Int32 → Int32 → g_St → Option (Int32 × g_St)) (hk79 : ∀ (x1 : Int32) (x3 : Int32) (x4 : Int32) (x5 : Int32) (x6 : Int32) (x7 : Int32) (x8 : Int32) (σ : g_St), G X 79 [(0, .ref (g_b X + 77)), (1, .int x1), (3, .int x3), (4, .int x4), (5, .int x5), (6, .int x6), (7, .int x7), (8, .int x8)] [] σ (k79 x1 x3 x4 x5 x6 x7 x8 σ)) (N : Nat) (x1 : Int32) (x3 : Int32) (x4 : Int32) (x5 : Int32) (x6 : Int32) (x7 : Int32) (x8 : Int32) (x9 : Int32) (x10 : Int32) (σ : g_St) : G X 252 [(0, .ref (g_b X + 77)), (1, .int x1), (3, .int x3), (4, .int x4), (5, .int x5), (6, .int x6), (7, .int x7), (8, .int x8), (9, .int x9), (10, .int x10)] [] σ (m_X11_buy_252 k79 N x1 x3 x4 x5 x6 x7 x8 x9 x10 σ) := by
  unfold m_X11_buy_252
  refine G_iconst C dX11_buy_252 (v := 1) (by decide +kernel) ?_
  refine G_goto C dX11_buy_253 (tgt := 257) (by decide) ?_
  exact w_m_X11_buy_257 C q hA k79 hk79 N x1 x3 x4 x5 x6 x7 x8 x9 x10 (1 : Int32) σ
set_option maxHeartbeats 4000000 in
set_option maxRecDepth 100000 in
theorem w_m_X11_buy_256 {X : g_X (Int32 × g_St)} (C : g_C X cX11_buy RX11 wsX11_buy rm_m_X11_buy 12) (q : g_qI X) (hA : g_ag L_m_X11_buy (g_n X) (g_T X)) (k79 : Int32 → Int32 → Int32 → Int32 → Int32 → Int32 → Int32 → g_St → Option (Int32 × g_St)) (hk79 : ∀ (x1 : Int32) (x3 : Int32) (x4 : Int32) (x5 : Int32) (x6 : Int32) (x7 : Int32) (x8 : Int32) (σ : g_St), G X 79 [(0, .ref (g_b X + 77)), (1, .int x1), (3, .int x3), (4, .int x4), (5, .int x5), (6, .int x6), (7, .int x7), (8, .int x8)] [] σ (k79 x1 x3 x4 x5 x6 x7 x8 σ)) (N : Nat) (x1 : Int32) (x3 : Int32) (x4 : Int32) (x5 : Int32) (x6 : Int32) (x7 : Int32) (x8 : Int32) (x9 : Int32) (x10 : Int32) (σ : g_St) : G X 256 [(0, .ref (g_b X + 77)), (1, .int x1), (3, .int x3), (4, .int x4), (5, .int x5), (6, .int x6), (7, .int x7), (8, .int x8), (9, .int x9), (10, .int x10)] [] σ (m_X11_buy_256 k79 N x1 x3 x4 x5 x6 x7 x8 x9 x10 σ) := by
  unfold m_X11_buy_256
  refine G_iconst C dX11_buy_256 (v := 0) (by decide +kernel) ?_
  exact w_m_X11_buy_257 C q hA k79 hk79 N x1 x3 x4 x5 x6 x7 x8 x9 x10 (0 : Int32) σ
set_option maxHeartbeats 4000000 in
set_option maxRecDepth 100000 in
theorem w_m_X11_buy_217 {X : g_X (Int32 × g_St)} (C : g_C X cX11_buy RX11 wsX11_buy rm_m_X11_buy 12) (q : g_qI X) (hA : g_ag L_m_X11_buy (g_n X) (g_T X)) (k79 : Int32 → Int32 → Int32 → Int32 → Int32 → Int32 → Int32 → g_St → Option (Int32 × g_St)) (hk79 : ∀ (x1 : Int32) (x3 : Int32) (x4 : Int32) (x5 : Int32) (x6 : Int32) (x7 : Int32) (x8 : Int32) (σ : g_St), G X 79 [(0, .ref (g_b X + 77)), (1, .int x1), (3, .int x3), (4, .int x4), (5, .int x5), (6, .int x6), (7, .int x7), (8, .int x8)] [] σ (k79 x1 x3 x4 x5 x6 x7 x8 σ)) (N : Nat) (x1 : Int32) (x3 : Int32) (x4 : Int32) (x5 : Int32) (x6 : Int32) (x7 : Int32) (x8 : Int32) (x9 : Int32) (s0 : Int32) (σ : g_St) : G X 217 [(0, .ref (g_b X + 77)), (1, .int x1), (3, .int x3), (4, .int x4), (5, .int x5), (6, .int x6), (7, .int x7), (8, .int x8), (9, .int x9)] [.int s0] σ (m_X11_buy_217 k79 N x1 x3 x4 x5 x6 x7 x8 x9 s0 σ) := by
  unfold m_X11_buy_217
  refine G_istore C dX11_buy_217 rfl (lv' := [(10, .int s0), (0, .ref (g_b X + 77)), (1, .int x1), (3, .int x3), (4, .int x4), (5, .int x5), (6, .int x6), (7, .int x7), (8, .int x8), (9, .int x9)]) rfl ?_
  refine G_iload C dX11_buy_219 6 rfl ?_
  refine G_iconst C dX11_buy_221 (v := -1) (by decide +kernel) ?_
  refine G_icmp_eq C dX11_buy_222 (tgt := 252) (by decide) (fun c1 => ?_) (fun c1 => ?_)
  · exact G_sub (w_m_X11_buy_252 C q hA k79 hk79 N x1 x3 x4 x5 x6 x7 x8 x9 s0 σ) [1, 2, 3, 4, 5, 6, 7, 8, 9, 0] rfl
  · refine G_iload C dX11_buy_225 9 rfl ?_
    refine G_iload C dX11_buy_227 7 rfl ?_
    refine G_icmp_lt C dX11_buy_229 (tgt := 252) (by decide) (fun c2 => ?_) (fun c2 => ?_)
    · exact G_sub (w_m_X11_buy_252 C q hA k79 hk79 N x1 x3 x4 x5 x6 x7 x8 x9 s0 σ) [1, 2, 3, 4, 5, 6, 7, 8, 9, 0] rfl
    · refine G_iload C dX11_buy_232 9 rfl ?_
      refine G_iload C dX11_buy_234 7 rfl ?_
      refine G_icmp_ne C dX11_buy_236 (tgt := 256) (by decide) (fun c3 => ?_) (fun c3 => ?_)
      · refine G_iload C dX11_buy_239 8 rfl ?_
        refine G_callI (rest := []) (fun a ha => g_runS C (nargs := 1) (As := [.int x8]) (rest := []) gX11_buy_X11_many rfl (by decide +kernel) rfl rfl rfl dX11_buy_241 (k_m_X11_many X.1.2.1 X.2.1 (g_n X) (g_T X) (g_ag_sub hA (by decide +kernel)) N x8 σ a ha)) (fun q4 => ?_)
        refine G_iload C dX11_buy_244 6 rfl ?_
        refine G_callI (rest := [.int q4.1]) (fun a ha => g_runS C (nargs := 1) (As := [.int x6]) (rest := [.int q4.1]) gX11_buy_X11_many rfl (by decide +kernel) rfl rfl rfl dX11_buy_246 (k_m_X11_many X.1.2.1 X.2.1 (g_n X) (g_T X) (g_ag_sub hA (by decide +kernel)) N x6 q4.2 a ha)) (fun q5 => ?_)
        refine G_icmp_ge C dX11_buy_249 (tgt := 256) (by decide) (fun c6 => ?_) (fun c6 => ?_)
        · exact G_sub (w_m_X11_buy_256 C q hA k79 hk79 N x1 x3 x4 x5 x6 x7 x8 x9 s0 q5.2) [1, 2, 3, 4, 5, 6, 7, 8, 9, 0] rfl
        · exact G_sub (w_m_X11_buy_252 C q hA k79 hk79 N x1 x3 x4 x5 x6 x7 x8 x9 s0 q5.2) [1, 2, 3, 4, 5, 6, 7, 8, 9, 0] rfl
      · exact G_sub (w_m_X11_buy_256 C q hA k79 hk79 N x1 x3 x4 x5 x6 x7 x8 x9 s0 σ) [1, 2, 3, 4, 5, 6, 7, 8, 9, 0] rfl
set_option maxHeartbeats 4000000 in
set_option maxRecDepth 100000 in
theorem w_m_X11_buy_216 {X : g_X (Int32 × g_St)} (C : g_C X cX11_buy RX11 wsX11_buy rm_m_X11_buy 12) (q : g_qI X) (hA : g_ag L_m_X11_buy (g_n X) (g_T X)) (k79 : Int32 → Int32 → Int32 → Int32 → Int32 → Int32 → Int32 → g_St → Option (Int32 × g_St)) (hk79 : ∀ (x1 : Int32) (x3 : Int32) (x4 : Int32) (x5 : Int32) (x6 : Int32) (x7 : Int32) (x8 : Int32) (σ : g_St), G X 79 [(0, .ref (g_b X + 77)), (1, .int x1), (3, .int x3), (4, .int x4), (5, .int x5), (6, .int x6), (7, .int x7), (8, .int x8)] [] σ (k79 x1 x3 x4 x5 x6 x7 x8 σ)) (N : Nat) (x1 : Int32) (x3 : Int32) (x4 : Int32) (x5 : Int32) (x6 : Int32) (x7 : Int32) (x8 : Int32) (x9 : Int32) (σ : g_St) : G X 216 [(0, .ref (g_b X + 77)), (1, .int x1), (3, .int x3), (4, .int x4), (5, .int x5), (6, .int x6), (7, .int x7), (8, .int x8), (9, .int x9)] [] σ (m_X11_buy_216 k79 N x1 x3 x4 x5 x6 x7 x8 x9 σ) := by
  unfold m_X11_buy_216
  refine G_iconst C dX11_buy_216 (v := 0) (by decide +kernel) ?_
  exact w_m_X11_buy_217 C q hA k79 hk79 N x1 x3 x4 x5 x6 x7 x8 x9 (0 : Int32) σ
set_option maxHeartbeats 4000000 in
set_option maxRecDepth 100000 in
theorem w_m_X11_buy_184 {X : g_X (Int32 × g_St)} (C : g_C X cX11_buy RX11 wsX11_buy rm_m_X11_buy 12) (q : g_qI X) (hA : g_ag L_m_X11_buy (g_n X) (g_T X)) (k79 : Int32 → Int32 → Int32 → Int32 → Int32 → Int32 → Int32 → g_St → Option (Int32 × g_St)) (hk79 : ∀ (x1 : Int32) (x3 : Int32) (x4 : Int32) (x5 : Int32) (x6 : Int32) (x7 : Int32) (x8 : Int32) (σ : g_St), G X 79 [(0, .ref (g_b X + 77)), (1, .int x1), (3, .int x3), (4, .int x4), (5, .int x5), (6, .int x6), (7, .int x7), (8, .int x8)] [] σ (k79 x1 x3 x4 x5 x6 x7 x8 σ)) (k97 : Int32 → Int32 → Int32 → Int32 → Int32 → Int32 → Int32 → Int32 → Int32 → Int32 → g_St → Option (Int32 × g_St)) (hk97 : ∀ (x1 : Int32) (x3 : Int32) (x4 : Int32) (x5 : Int32) (x6 : Int32) (x7 : Int32) (x8 : Int32) (x9 : Int32) (x10 : Int32) (x11 : Int32) (σ : g_St), G X 97 [(0, .ref (g_b X + 77)), (1, .int x1), (3, .int x3), (4, .int x4), (5, .int x5), (6, .int x6), (7, .int x7), (8, .int x8), (9, .int x9), (10, .int x10), (11, .int x11)] [] σ (k97 x1 x3 x4 x5 x6 x7 x8 x9 x10 x11 σ)) (N : Nat) (x1 : Int32) (x3 : Int32) (x4 : Int32) (x5 : Int32) (x6 : Int32) (x7 : Int32) (x8 : Int32) (x9 : Int32) (x10 : Int32) (x11 : Int32) (σ : g_St) : G X 184 [(0, .ref (g_b X + 77)), (1, .int x1), (3, .int x3), (4, .int x4), (5, .int x5), (6, .int x6), (7, .int x7), (8, .int x8), (9, .int x9), (10, .int x10), (11, .int x11)] [] σ (m_X11_buy_184 k79 k97 N x1 x3 x4 x5 x6 x7 x8 x9 x10 x11 σ) := by
  unfold m_X11_buy_184
  refine G_iinc C dX11_buy_184 10 rfl (v := (x11 + (1 : Int32))) (by rfl) rfl (lv' := [(11, .int (x11 + (1 : Int32))), (0, .ref (g_b X + 77)), (1, .int x1), (3, .int x3), (4, .int x4), (5, .int x5), (6, .int x6), (7, .int x7), (8, .int x8), (9, .int x9), (10, .int x10)]) rfl ?_
  refine G_ltv (fun v => [(11, .int v), (0, .ref (g_b X + 77)), (1, .int x1), (3, .int x3), (4, .int x4), (5, .int x5), (6, .int x6), (7, .int x7), (8, .int x8), (9, .int x9), (10, .int x10)]) (fun v1 => ?_)
  refine G_goto C dX11_buy_187 (tgt := 97) (by decide) ?_
  exact G_sub (hk97 x1 x3 x4 x5 x6 x7 x8 x9 x10 v1 σ) [1, 2, 3, 4, 5, 6, 7, 8, 9, 10, 0] rfl
set_option maxHeartbeats 4000000 in
set_option maxRecDepth 100000 in
theorem w_m_X11_buy_182 {X : g_X (Int32 × g_St)} (C : g_C X cX11_buy RX11 wsX11_buy rm_m_X11_buy 12) (q : g_qI X) (hA : g_ag L_m_X11_buy (g_n X) (g_T X)) (k79 : Int32 → Int32 → Int32 → Int32 → Int32 → Int32 → Int32 → g_St → Option (Int32 × g_St)) (hk79 : ∀ (x1 : Int32) (x3 : Int32) (x4 : Int32) (x5 : Int32) (x6 : Int32) (x7 : Int32) (x8 : Int32) (σ : g_St), G X 79 [(0, .ref (g_b X + 77)), (1, .int x1), (3, .int x3), (4, .int x4), (5, .int x5), (6, .int x6), (7, .int x7), (8, .int x8)] [] σ (k79 x1 x3 x4 x5 x6 x7 x8 σ)) (k97 : Int32 → Int32 → Int32 → Int32 → Int32 → Int32 → Int32 → Int32 → Int32 → Int32 → g_St → Option (Int32 × g_St)) (hk97 : ∀ (x1 : Int32) (x3 : Int32) (x4 : Int32) (x5 : Int32) (x6 : Int32) (x7 : Int32) (x8 : Int32) (x9 : Int32) (x10 : Int32) (x11 : Int32) (σ : g_St), G X 97 [(0, .ref (g_b X + 77)), (1, .int x1), (3, .int x3), (4, .int x4), (5, .int x5), (6, .int x6), (7, .int x7), (8, .int x8), (9, .int x9), (10, .int x10), (11, .int x11)] [] σ (k97 x1 x3 x4 x5 x6 x7 x8 x9 x10 x11 σ)) (N : Nat) (x1 : Int32) (x3 : Int32) (x4 : Int32) (x5 : Int32) (x6 : Int32) (x7 : Int32) (x8 : Int32) (x9 : Int32) (x11 : Int32) (s0 : Int32) (σ : g_St) : G X 182 [(0, .ref (g_b X + 77)), (1, .int x1), (3, .int x3), (4, .int x4), (5, .int x5), (6, .int x6), (7, .int x7), (8, .int x8), (9, .int x9), (11, .int x11)] [.int s0] σ (m_X11_buy_182 k79 k97 N x1 x3 x4 x5 x6 x7 x8 x9 x11 s0 σ) := by
  unfold m_X11_buy_182
  refine G_istore C dX11_buy_182 rfl (lv' := [(10, .int s0), (0, .ref (g_b X + 77)), (1, .int x1), (3, .int x3), (4, .int x4), (5, .int x5), (6, .int x6), (7, .int x7), (8, .int x8), (9, .int x9), (11, .int x11)]) rfl ?_
  exact G_sub (w_m_X11_buy_184 C q hA k79 hk79 k97 hk97 N x1 x3 x4 x5 x6 x7 x8 x9 s0 x11 σ) [1, 2, 3, 4, 5, 6, 7, 8, 9, 0, 10] rfl
set_option maxHeartbeats 4000000 in
set_option maxRecDepth 100000 in
theorem w_m_X11_buy_181 {X : g_X (Int32 × g_St)} (C : g_C X cX11_buy RX11 wsX11_buy rm_m_X11_buy 12) (q : g_qI X) (hA : g_ag L_m_X11_buy (g_n X) (g_T X)) (k79 : Int32 → Int32 → Int32 → Int32 → Int32 → Int32 → Int32 → g_St → Option (Int32 × g_St)) (hk79 : ∀ (x1 : Int32) (x3 : Int32) (x4 : Int32) (x5 : Int32) (x6 : Int32) (x7 : Int32) (x8 : Int32) (σ : g_St), G X 79 [(0, .ref (g_b X + 77)), (1, .int x1), (3, .int x3), (4, .int x4), (5, .int x5), (6, .int x6), (7, .int x7), (8, .int x8)] [] σ (k79 x1 x3 x4 x5 x6 x7 x8 σ)) (k97 : Int32 → Int32 → Int32 → Int32 → Int32 → Int32 → Int32 → Int32 → Int32 → Int32 → g_St → Option (Int32 × g_St)) (hk97 : ∀ (x1 : Int32) (x3 : Int32) (x4 : Int32) (x5 : Int32) (x6 : Int32) (x7 : Int32) (x8 : Int32) (x9 : Int32) (x10 : Int32) (x11 : Int32) (σ : g_St), G X 97 [(0, .ref (g_b X + 77)), (1, .int x1), (3, .int x3), (4, .int x4), (5, .int x5), (6, .int x6), (7, .int x7), (8, .int x8), (9, .int x9), (10, .int x10), (11, .int x11)] [] σ (k97 x1 x3 x4 x5 x6 x7 x8 x9 x10 x11 σ)) (N : Nat) (x1 : Int32) (x3 : Int32) (x4 : Int32) (x5 : Int32) (x6 : Int32) (x7 : Int32) (x8 : Int32) (x9 : Int32) (x11 : Int32) (σ : g_St) : G X 181 [(0, .ref (g_b X + 77)), (1, .int x1), (3, .int x3), (4, .int x4), (5, .int x5), (6, .int x6), (7, .int x7), (8, .int x8), (9, .int x9), (11, .int x11)] [] σ (m_X11_buy_181 k79 k97 N x1 x3 x4 x5 x6 x7 x8 x9 x11 σ) := by
  unfold m_X11_buy_181
  refine G_iconst C dX11_buy_181 (v := 0) (by decide +kernel) ?_
  exact w_m_X11_buy_182 C q hA k79 hk79 k97 hk97 N x1 x3 x4 x5 x6 x7 x8 x9 x11 (0 : Int32) σ
set_option maxHeartbeats 4000000 in
set_option maxRecDepth 100000 in
theorem w_m_X11_buy_97 {X : g_X (Int32 × g_St)} (C : g_C X cX11_buy RX11 wsX11_buy rm_m_X11_buy 12) (q : g_qI X) (hA : g_ag L_m_X11_buy (g_n X) (g_T X)) (k79 : Int32 → Int32 → Int32 → Int32 → Int32 → Int32 → Int32 → g_St → Option (Int32 × g_St)) (hk79 : ∀ (x1 : Int32) (x3 : Int32) (x4 : Int32) (x5 : Int32) (x6 : Int32) (x7 : Int32) (x8 : Int32) (σ : g_St), G X 79 [(0, .ref (g_b X + 77)), (1, .int x1), (3, .int x3), (4, .int x4), (5, .int x5), (6, .int x6), (7, .int x7), (8, .int x8)] [] σ (k79 x1 x3 x4 x5 x6 x7 x8 σ)) (N : Nat) : ∀ (fu : Nat) (x1 : Int32) (x3 : Int32) (x4 : Int32) (x5 : Int32) (x6 : Int32) (x7 : Int32) (x8 : Int32) (x9 : Int32) (x10 : Int32) (x11 : Int32) (σ : g_St), G X 97 [(0, .ref (g_b X + 77)), (1, .int x1), (3, .int x3), (4, .int x4), (5, .int x5), (6, .int x6), (7, .int x7), (8, .int x8), (9, .int x9), (10, .int x10), (11, .int x11)] [] σ (m_X11_buy_97 k79 N fu x1 x3 x4 x5 x6 x7 x8 x9 x10 x11 σ) := by
  have t77 := g_ag_at hA (c := 77) rfl tc77
  have t79 := g_ag_at hA (c := 79) rfl tc79
  have t81 := g_ag_at hA (c := 81) rfl tc81
  intro fu
  induction fu with
  | zero => intro x1 x3 x4 x5 x6 x7 x8 x9 x10 x11 σ; exact G_none
  | succ fu ih =>
    intro x1 x3 x4 x5 x6 x7 x8 x9 x10 x11 σ
    unfold m_X11_buy_97
    refine G_iload C dX11_buy_97 10 rfl ?_
    refine G_aload_n C dX11_buy_99 rfl 0 rfl ?_
    refine G_getR C f_X11_buy_13 t77 rfl dX11_buy_100 ?_
    refine G_iconst C dX11_buy_103 (v := 1) (by decide +kernel) ?_
    refine G_aldk C t79 (by decide +kernel) (k := 1) rfl dX11_buy_104 ?_
    refine G_icmp_ge C dX11_buy_105 (tgt := 190) (by decide) (fun c1 => ?_) (fun c1 => ?_)
    · refine G_iload C dX11_buy_190 9 rfl ?_
      refine G_if_eq C dX11_buy_192 (tgt := 216) (by decide) (fun c2 => ?_) (fun c2 => ?_)
      · exact G_sub (w_m_X11_buy_216 C q hA k79 hk79 N x1 x3 x4 x5 x6 x7 x8 x9 σ) [0, 1, 2, 3, 4, 5, 6, 7, 8] rfl
      · refine G_iload C dX11_buy_195 8 rfl ?_
        refine G_aload_n C dX11_buy_197 rfl 0 rfl ?_
        refine G_getR C f_X11_buy_19 t77 rfl dX11_buy_198 ?_
        refine G_iconst C dX11_buy_201 (v := 3) (by decide +kernel) ?_
        refine G_iconst C dX11_buy_202 (v := 2) (by decide +kernel) ?_
        refine G_iload_n C dX11_buy_203 rfl 1 rfl ?_
        refine G_imul C dX11_buy_204 ?_
        refine G_iadd C dX11_buy_205 ?_
        refine G_iconst C dX11_buy_206 (v := 1) (by decide +kernel) ?_
        refine G_iadd C dX11_buy_207 ?_
        refine G_chk (fun h3 => ?_)
        refine G_ald C t81 h3 dX11_buy_208 ?_
        refine G_icmp_gt C dX11_buy_209 (tgt := 216) (by decide) (fun c4 => ?_) (fun c4 => ?_)
        · exact G_sub (w_m_X11_buy_216 C q hA k79 hk79 N x1 x3 x4 x5 x6 x7 x8 x9 σ) [0, 1, 2, 3, 4, 5, 6, 7, 8] rfl
        · refine G_iconst C dX11_buy_212 (v := 1) (by decide +kernel) ?_
          refine G_goto C dX11_buy_213 (tgt := 217) (by decide) ?_
          exact G_sub (w_m_X11_buy_217 C q hA k79 hk79 N x1 x3 x4 x5 x6 x7 x8 x9 (1 : Int32) σ) [0, 1, 2, 3, 4, 5, 6, 7, 8] rfl
    · refine G_iload C dX11_buy_108 7 rfl ?_
      refine G_iload C dX11_buy_110 10 rfl ?_
      refine G_ishr C dX11_buy_112 ?_
      refine G_iconst C dX11_buy_113 (v := 1) (by decide +kernel) ?_
      refine G_iand C dX11_buy_114 ?_
      refine G_iconst C dX11_buy_115 (v := 1) (by decide +kernel) ?_
      refine G_icmp_ne C dX11_buy_116 (tgt := 184) (by decide) (fun c5 => ?_) (fun c5 => ?_)
      · refine G_iload C dX11_buy_119 8 rfl ?_
        refine G_aload_n C dX11_buy_121 rfl 0 rfl ?_
        refine G_getR C f_X11_buy_19 t77 rfl dX11_buy_122 ?_
        refine G_bipush C dX11_buy_125 (v := 15) (by decide +kernel) ?_
        refine G_iconst C dX11_buy_127 (v := 3) (by decide +kernel) ?_
        refine G_iload C dX11_buy_128 10 rfl ?_
        refine G_imul C dX11_buy_130 ?_
        refine G_iadd C dX11_buy_131 ?_
        refine G_iconst C dX11_buy_132 (v := 2) (by decide +kernel) ?_
        refine G_iadd C dX11_buy_133 ?_
        refine G_chk (fun h6 => ?_)
        refine G_ald C t81 h6 dX11_buy_134 ?_
        refine G_iadd C dX11_buy_135 ?_
        refine G_lti (fun v7 => ?_)
        refine G_istore C dX11_buy_136 rfl (lv' := [(9, .int v7), (0, .ref (g_b X + 77)), (1, .int x1), (3, .int x3), (4, .int x4), (5, .int x5), (6, .int x6), (7, .int x7), (8, .int x8), (10, .int x10), (11, .int x11)]) rfl ?_
        refine G_iload C dX11_buy_138 9 rfl ?_
        refine G_if_eq C dX11_buy_140 (tgt := 181) (by decide) (fun c8 => ?_) (fun c8 => ?_)
        · exact G_sub (w_m_X11_buy_181 C q hA k79 hk79 (m_X11_buy_97 k79 N fu) ih N x1 x3 x4 x5 x6 x7 x8 v7 x11 σ) [1, 2, 3, 4, 5, 6, 7, 8, 0, 10] rfl
        · refine G_aload_n C dX11_buy_143 rfl 1 rfl ?_
          refine G_getR C f_X11_buy_19 t77 rfl dX11_buy_144 ?_
          refine G_bipush C dX11_buy_147 (v := 15) (by decide +kernel) ?_
          refine G_iconst C dX11_buy_149 (v := 3) (by decide +kernel) ?_
          refine G_iload C dX11_buy_150 10 rfl ?_
          refine G_imul C dX11_buy_152 ?_
          refine G_iadd C dX11_buy_153 ?_
          refine G_chk (fun h9 => ?_)
          refine G_ald C t81 h9 dX11_buy_154 ?_
          refine G_iload_n C dX11_buy_155 rfl 2 rfl ?_
          refine G_icmp_eq C dX11_buy_156 (tgt := 181) (by decide) (fun c10 => ?_) (fun c10 => ?_)
          · exact G_sub (w_m_X11_buy_181 C q hA k79 hk79 (m_X11_buy_97 k79 N fu) ih N x1 x3 x4 x5 x6 x7 x8 v7 x11 σ) [1, 2, 3, 4, 5, 6, 7, 8, 0, 10] rfl
          · refine G_aload_n C dX11_buy_159 rfl 1 rfl ?_
            refine G_getR C f_X11_buy_19 t77 rfl dX11_buy_160 ?_
            refine G_bipush C dX11_buy_163 (v := 15) (by decide +kernel) ?_
            refine G_iconst C dX11_buy_165 (v := 3) (by decide +kernel) ?_
            refine G_iload C dX11_buy_166 10 rfl ?_
            refine G_imul C dX11_buy_168 ?_
            refine G_iadd C dX11_buy_169 ?_
            refine G_iconst C dX11_buy_170 (v := 1) (by decide +kernel) ?_
            refine G_iadd C dX11_buy_171 ?_
            refine G_chk (fun h11 => ?_)
            refine G_ald C t81 h11 dX11_buy_172 ?_
            refine G_iconst C dX11_buy_173 (v := -1) (by decide +kernel) ?_
            refine G_icmp_ne C dX11_buy_174 (tgt := 181) (by decide) (fun c12 => ?_) (fun c12 => ?_)
            · refine G_iconst C dX11_buy_177 (v := 1) (by decide +kernel) ?_
              refine G_goto C dX11_buy_178 (tgt := 182) (by decide) ?_
              exact G_sub (w_m_X11_buy_182 C q hA k79 hk79 (m_X11_buy_97 k79 N fu) ih N x1 x3 x4 x5 x6 x7 x8 v7 x11 (1 : Int32) σ) [1, 2, 3, 4, 5, 6, 7, 8, 0, 10] rfl
            · exact G_sub (w_m_X11_buy_181 C q hA k79 hk79 (m_X11_buy_97 k79 N fu) ih N x1 x3 x4 x5 x6 x7 x8 v7 x11 σ) [1, 2, 3, 4, 5, 6, 7, 8, 0, 10] rfl
      · exact w_m_X11_buy_184 C q hA k79 hk79 (m_X11_buy_97 k79 N fu) ih N x1 x3 x4 x5 x6 x7 x8 x9 x10 x11 σ
set_option maxHeartbeats 4000000 in
set_option maxRecDepth 100000 in
theorem w_m_X11_buy_79 {X : g_X (Int32 × g_St)} (C : g_C X cX11_buy RX11 wsX11_buy rm_m_X11_buy 12) (q : g_qI X) (hA : g_ag L_m_X11_buy (g_n X) (g_T X)) (N : Nat) : ∀ (fu : Nat) (x1 : Int32) (x3 : Int32) (x4 : Int32) (x5 : Int32) (x6 : Int32) (x7 : Int32) (x8 : Int32) (σ : g_St), G X 79 [(0, .ref (g_b X + 77)), (1, .int x1), (3, .int x3), (4, .int x4), (5, .int x5), (6, .int x6), (7, .int x7), (8, .int x8)] [] σ (m_X11_buy_79 N fu x1 x3 x4 x5 x6 x7 x8 σ) := by
  have t77 := g_ag_at hA (c := 77) rfl tc77
  intro fu
  induction fu with
  | zero => intro x1 x3 x4 x5 x6 x7 x8 σ; exact G_none
  | succ fu ih =>
    intro x1 x3 x4 x5 x6 x7 x8 σ
    unfold m_X11_buy_79
    refine G_iload C dX11_buy_79 7 rfl ?_
    refine G_aload_n C dX11_buy_81 rfl 0 rfl ?_
    refine G_callI (rest := [.int x8]) (fun a ha => g_runV C (nargs := 0) (As := []) (rest := [.int x8]) gX11_buy_X11_all rfl (by decide +kernel) rfl t77 rfl rfl rfl rfl dX11_buy_82 (k_m_X11_all X.1.2.1 X.2.1 (g_n X) (g_T X) (g_ag_sub hA (by decide +kernel)) σ a ha)) (fun q1 => ?_)
    refine G_icmp_gt C dX11_buy_85 (tgt := 330) (by decide) (fun c2 => ?_) (fun c2 => ?_)
    · refine G_iload C dX11_buy_330 5 rfl ?_
      refine G_iconst C dX11_buy_332 (v := -1) (by decide +kernel) ?_
      refine G_icmp_ne C dX11_buy_333 (tgt := 340) (by decide) (fun c3 => ?_) (fun c3 => ?_)
      · refine G_iconst C dX11_buy_336 (v := -1) (by decide +kernel) ?_
        refine G_goto C dX11_buy_337 (tgt := 352) (by decide) ?_
        exact G_iret C q dX11_buy_352
      · refine G_iload C dX11_buy_340 3 rfl ?_
        refine G_if_ne C dX11_buy_342 (tgt := 350) (by decide) (fun c4 => ?_) (fun c4 => ?_)
        · refine G_iload C dX11_buy_345 6 rfl ?_
          refine G_goto C dX11_buy_347 (tgt := 352) (by decide) ?_
          exact G_iret C q dX11_buy_352
        · refine G_iload C dX11_buy_350 5 rfl ?_
          exact G_iret C q dX11_buy_352
    · refine G_iconst C dX11_buy_88 (v := 0) (by decide +kernel) ?_
      refine G_istore C dX11_buy_89 rfl (lv' := [(9, .int (0 : Int32)), (0, .ref (g_b X + 77)), (1, .int x1), (3, .int x3), (4, .int x4), (5, .int x5), (6, .int x6), (7, .int x7), (8, .int x8)]) rfl ?_
      refine G_iconst C dX11_buy_91 (v := 1) (by decide +kernel) ?_
      refine G_istore C dX11_buy_92 rfl (lv' := [(10, .int (1 : Int32)), (9, .int (0 : Int32)), (0, .ref (g_b X + 77)), (1, .int x1), (3, .int x3), (4, .int x4), (5, .int x5), (6, .int x6), (7, .int x7), (8, .int x8)]) rfl ?_
      refine G_iconst C dX11_buy_94 (v := 0) (by decide +kernel) ?_
      refine G_istore C dX11_buy_95 rfl (lv' := [(11, .int (0 : Int32)), (10, .int (1 : Int32)), (9, .int (0 : Int32)), (0, .ref (g_b X + 77)), (1, .int x1), (3, .int x3), (4, .int x4), (5, .int x5), (6, .int x6), (7, .int x7), (8, .int x8)]) rfl ?_
      exact G_sub (w_m_X11_buy_97 C q hA (m_X11_buy_79 N fu) ih N N x1 x3 x4 x5 x6 x7 x8 (0 : Int32) (1 : Int32) (0 : Int32) q1.2) [3, 4, 5, 6, 7, 8, 9, 10, 2, 1, 0] rfl
set_option maxHeartbeats 4000000 in
set_option maxRecDepth 100000 in
theorem w_m_X11_buy_0 {X : g_X (Int32 × g_St)} (C : g_C X cX11_buy RX11 wsX11_buy rm_m_X11_buy 12) (q : g_qI X) (hA : g_ag L_m_X11_buy (g_n X) (g_T X)) (N : Nat) (x1 : Int32) (x2 : Int32) (x3 : Int32) (x4 : Int32) (σ : g_St) : G X 0 [(0, .ref (g_b X + 77)), (1, .int x1), (2, .int x2), (3, .int x3), (4, .int x4)] [] σ (m_X11_buy N x1 x2 x3 x4 σ) := by
  have t77 := g_ag_at hA (c := 77) rfl tc77
  have t79 := g_ag_at hA (c := 79) rfl tc79
  have t81 := g_ag_at hA (c := 81) rfl tc81
  unfold m_X11_buy
  refine G_aload_n C dX11_buy_0 rfl 0 rfl ?_
  refine G_iload_n C dX11_buy_1 rfl 1 rfl ?_
  refine G_callI (rest := []) (fun a ha => g_runV C (nargs := 1) (As := [.int x1]) (rest := []) gX11_buy_X11_isPerson rfl (by decide +kernel) rfl t77 rfl rfl rfl rfl dX11_buy_2 (k_m_X11_isPerson X.1.2.1 X.2.1 (g_n X) (g_T X) (g_ag_sub hA (by decide +kernel)) x1 σ a ha)) (fun q1 => ?_)
  refine G_if_ne C dX11_buy_5 (tgt := 11) (by decide) (fun c2 => ?_) (fun c2 => ?_)
  · refine G_ldc C dX11_buy_8 c_X11_buy_139 ?_
    exact G_iret C q dX11_buy_10
  · refine G_iload_n C dX11_buy_11 rfl 2 rfl ?_
    refine G_i2l C dX11_buy_12 ?_
    refine G_lconst C dX11_buy_13 (v := 0) (by decide +kernel) ?_
    refine G_ldc2 C dX11_buy_14 c_X11_buy_149 ?_
    refine G_callI (rest := []) (fun a ha => g_runS C (nargs := 3) (As := [.long (x2).toInt64, .long (0 : Int64), .long (3 : Int64)]) (rest := []) gX11_buy_X11_in rfl (by decide +kernel) rfl rfl rfl dX11_buy_17 (k_m_X11_in X.1.2.1 X.2.1 (g_n X) (g_T X) (g_ag_sub hA (by decide +kernel)) (x2).toInt64 (0 : Int64) (3 : Int64) q1.2 a ha)) (fun q3 => ?_)
    refine G_if_eq C dX11_buy_20 (tgt := 46) (by decide) (fun c4 => ?_) (fun c4 => ?_)
    · refine G_ldc C dX11_buy_46 c_X11_buy_71 ?_
      exact G_iret C q dX11_buy_48
    · refine G_iload_n C dX11_buy_23 rfl 3 rfl ?_
      refine G_i2l C dX11_buy_24 ?_
      refine G_lconst C dX11_buy_25 (v := 0) (by decide +kernel) ?_
      refine G_ldc2 C dX11_buy_26 c_X11_buy_198 ?_
      refine G_callI (rest := []) (fun a ha => g_runS C (nargs := 3) (As := [.long (x3).toInt64, .long (0 : Int64), .long (100 : Int64)]) (rest := []) gX11_buy_X11_in rfl (by decide +kernel) rfl rfl rfl dX11_buy_29 (k_m_X11_in X.1.2.1 X.2.1 (g_n X) (g_T X) (g_ag_sub hA (by decide +kernel)) (x3).toInt64 (0 : Int64) (100 : Int64) q3.2 a ha)) (fun q5 => ?_)
      refine G_if_eq C dX11_buy_32 (tgt := 46) (by decide) (fun c6 => ?_) (fun c6 => ?_)
      · refine G_ldc C dX11_buy_46 c_X11_buy_71 ?_
        exact G_iret C q dX11_buy_48
      · refine G_iload C dX11_buy_35 4 rfl ?_
        refine G_i2l C dX11_buy_37 ?_
        refine G_lconst C dX11_buy_38 (v := 0) (by decide +kernel) ?_
        refine G_lconst C dX11_buy_39 (v := 1) (by decide +kernel) ?_
        refine G_callI (rest := []) (fun a ha => g_runS C (nargs := 3) (As := [.long (x4).toInt64, .long (0 : Int64), .long (1 : Int64)]) (rest := []) gX11_buy_X11_in rfl (by decide +kernel) rfl rfl rfl dX11_buy_40 (k_m_X11_in X.1.2.1 X.2.1 (g_n X) (g_T X) (g_ag_sub hA (by decide +kernel)) (x4).toInt64 (0 : Int64) (1 : Int64) q5.2 a ha)) (fun q7 => ?_)
        refine G_if_ne C dX11_buy_43 (tgt := 49) (by decide) (fun c8 => ?_) (fun c8 => ?_)
        · refine G_ldc C dX11_buy_46 c_X11_buy_71 ?_
          exact G_iret C q dX11_buy_48
        · refine G_aload_n C dX11_buy_49 rfl 0 rfl ?_
          refine G_getR C f_X11_buy_13 t77 rfl dX11_buy_50 ?_
          refine G_iconst C dX11_buy_53 (v := 5) (by decide +kernel) ?_
          refine G_iload_n C dX11_buy_54 rfl 2 rfl ?_
          refine G_iadd C dX11_buy_55 ?_
          refine G_chk (fun h9 => ?_)
          refine G_ald C t79 h9 dX11_buy_56 ?_
          refine G_aload_n C dX11_buy_57 rfl 0 rfl ?_
          refine G_getR C f_X11_buy_19 t77 rfl dX11_buy_58 ?_
          refine G_iconst C dX11_buy_61 (v := 3) (by decide +kernel) ?_
          refine G_iconst C dX11_buy_62 (v := 2) (by decide +kernel) ?_
          refine G_iload_n C dX11_buy_63 rfl 1 rfl ?_
          refine G_imul C dX11_buy_64 ?_
          refine G_iadd C dX11_buy_65 ?_
          refine G_chk (fun h10 => ?_)
          refine G_ald C t81 h10 dX11_buy_66 ?_
          refine G_isub C dX11_buy_67 ?_
          refine G_lti (fun v11 => ?_)
          refine G_istore C dX11_buy_68 rfl (lv' := [(5, .int v11), (0, .ref (g_b X + 77)), (1, .int x1), (2, .int x2), (3, .int x3), (4, .int x4)]) rfl ?_
          refine G_iconst C dX11_buy_70 (v := -1) (by decide +kernel) ?_
          refine G_istore C dX11_buy_71 rfl (lv' := [(6, .int (-1 : Int32)), (5, .int v11), (0, .ref (g_b X + 77)), (1, .int x1), (2, .int x2), (3, .int x3), (4, .int x4)]) rfl ?_
          refine G_iconst C dX11_buy_73 (v := 0) (by decide +kernel) ?_
          refine G_istore C dX11_buy_74 rfl (lv' := [(7, .int (0 : Int32)), (6, .int (-1 : Int32)), (5, .int v11), (0, .ref (g_b X + 77)), (1, .int x1), (2, .int x2), (3, .int x3), (4, .int x4)]) rfl ?_
          refine G_iconst C dX11_buy_76 (v := 0) (by decide +kernel) ?_
          refine G_istore C dX11_buy_77 rfl (lv' := [(8, .int (0 : Int32)), (7, .int (0 : Int32)), (6, .int (-1 : Int32)), (5, .int v11), (0, .ref (g_b X + 77)), (1, .int x1), (2, .int x2), (3, .int x3), (4, .int x4)]) rfl ?_
          exact G_sub (w_m_X11_buy_79 C q hA N N x1 x3 x4 v11 (-1 : Int32) (0 : Int32) (0 : Int32) q7.2) [4, 5, 7, 8, 3, 2, 1, 0] rfl
theorem k_m_X11_buy (l : Launch) (E : g_E) (n : Nat) (T : Nat → g_Sh) (hA : g_ag L_m_X11_buy n T) (N : Nat) (x1 : Int32) (x2 : Int32) (x3 : Int32) (x4 : Int32) (σ : g_St) (a : Int32 × g_St) (h : m_X11_buy N x1 x2 x3 x4 σ = some a) : Met l yX11_buy wsX11_buy rm_m_X11_buy (g_Pc E n T [.ref (E.2.1 + 77), .int x1, .int x2, .int x3, .int x4] σ) (g_Qi E n T a) 0 0 (g_A E) :=
  g_metI (by decide +kernel) rfl rfl (Nat.le_of_ble_eq_true rfl) (fun M Qf C q => by rw [← h]; exact w_m_X11_buy_0 C q hA N x1 x2 x3 x4 σ)
def L_m_X11_asides : List Nat := [77, 81, 86]
abbrev rm_m_X11_asides : Room := { frames := 0, cells := 0, slots := 0, locals := 0 }
theorem f_X11_asides_19 : g_Fld wsX11_asides RX11 19 11 7 := ⟨RX11, TX11, 27, rfl, by decide +kernel, by decide, by decide +kernel⟩
theorem f_X11_asides_34 : g_Fld wsX11_asides RX11 34 11 14 := ⟨RX11, TX11, 27, rfl, by decide +kernel, by decide, by decide +kernel⟩
set_option maxHeartbeats 4000000 in
set_option maxRecDepth 100000 in
theorem w_m_X11_asides_2 {X : g_X (g_St)} (C : g_C X cX11_asides RX11 wsX11_asides rm_m_X11_asides 2) (q : g_qV X) (hA : g_ag L_m_X11_asides (g_n X) (g_T X)) (N : Nat) : ∀ (fu : Nat) (x1 : Int32) (σ : g_St), G X 2 [(0, .ref (g_b X + 77)), (1, .int x1)] [] σ (m_X11_asides_2 N fu x1 σ) := by
  have t77 := g_ag_at hA (c := 77) rfl tc77
  have t81 := g_ag_at hA (c := 81) rfl tc81
  have t86 := g_ag_at hA (c := 86) rfl tc86
  intro fu
  induction fu with
  | zero => intro x1 σ; exact G_none
  | succ fu ih =>
    intro x1 σ
    unfold m_X11_asides_2
    refine G_iload_n C dX11_asides_2 rfl 1 rfl ?_
    refine G_bipush C dX11_asides_3 (v := 39) (by decide +kernel) ?_
    refine G_icmp_ge C dX11_asides_5 (tgt := 26) (by decide) (fun c1 => ?_) (fun c1 => ?_)
    · exact G_vret C q dX11_asides_26
    · refine G_aload_n C dX11_asides_8 rfl 0 rfl ?_
      refine G_getR C f_X11_asides_34 t77 rfl dX11_asides_9 ?_
      refine G_iload_n C dX11_asides_12 rfl 1 rfl ?_
      refine G_aload_n C dX11_asides_13 rfl 0 rfl ?_
      refine G_getR C f_X11_asides_19 t77 rfl dX11_asides_14 ?_
      refine G_iload_n C dX11_asides_17 rfl 1 rfl ?_
      refine G_chk (fun h2 => ?_)
      refine G_ald C t81 h2 dX11_asides_18 ?_
      refine G_chk (fun h3 => ?_)
      refine G_ast C t86 h3 dX11_asides_19 ?_
      refine G_lts (fun σ4 => ?_)
      refine G_iinc C dX11_asides_20 1 rfl (v := (x1 + (1 : Int32))) (by rfl) rfl (lv' := [(1, .int (x1 + (1 : Int32))), (0, .ref (g_b X + 77))]) rfl ?_
      refine G_ltv (fun v => [(1, .int v), (0, .ref (g_b X + 77))]) (fun v5 => ?_)
      refine G_goto C dX11_asides_23 (tgt := 2) (by decide) ?_
      exact G_sub (ih v5 σ4) [1, 0] rfl
set_option maxHeartbeats 4000000 in
set_option maxRecDepth 100000 in
theorem w_m_X11_asides_0 {X : g_X (g_St)} (C : g_C X cX11_asides RX11 wsX11_asides rm_m_X11_asides 2) (q : g_qV X) (hA : g_ag L_m_X11_asides (g_n X) (g_T X)) (N : Nat) (σ : g_St) : G X 0 [(0, .ref (g_b X + 77))] [] σ (m_X11_asides N σ) := by
  unfold m_X11_asides
  refine G_iconst C dX11_asides_0 (v := 0) (by decide +kernel) ?_
  refine G_istore_n C dX11_asides_1 rfl rfl (lv' := [(1, .int (0 : Int32)), (0, .ref (g_b X + 77))]) rfl ?_
  exact G_sub (w_m_X11_asides_2 C q hA N N (0 : Int32) σ) [1, 0] rfl
theorem k_m_X11_asides (l : Launch) (E : g_E) (n : Nat) (T : Nat → g_Sh) (hA : g_ag L_m_X11_asides n T) (N : Nat) (σ : g_St) (a : g_St) (h : m_X11_asides N σ = some a) : Met l yX11_asides wsX11_asides rm_m_X11_asides (g_Pc E n T [.ref (E.2.1 + 77)] σ) (g_Qv E n T a) 0 0 (g_A E) :=
  g_metV (by decide +kernel) rfl rfl (Nat.le_of_ble_eq_true rfl) (fun M Qf C q => by rw [← h]; exact w_m_X11_asides_0 C q hA N σ)
def L_m_X11_backs : List Nat := [77, 81, 86]
abbrev rm_m_X11_backs : Room := { frames := 0, cells := 0, slots := 0, locals := 0 }
theorem f_X11_backs_19 : g_Fld wsX11_backs RX11 19 11 7 := ⟨RX11, TX11, 27, rfl, by decide +kernel, by decide, by decide +kernel⟩
theorem f_X11_backs_34 : g_Fld wsX11_backs RX11 34 11 14 := ⟨RX11, TX11, 27, rfl, by decide +kernel, by decide, by decide +kernel⟩
set_option maxHeartbeats 4000000 in
set_option maxRecDepth 100000 in
theorem w_m_X11_backs_2 {X : g_X (g_St)} (C : g_C X cX11_backs RX11 wsX11_backs rm_m_X11_backs 2) (q : g_qV X) (hA : g_ag L_m_X11_backs (g_n X) (g_T X)) (N : Nat) : ∀ (fu : Nat) (x1 : Int32) (σ : g_St), G X 2 [(0, .ref (g_b X + 77)), (1, .int x1)] [] σ (m_X11_backs_2 N fu x1 σ) := by
  have t77 := g_ag_at hA (c := 77) rfl tc77
  have t81 := g_ag_at hA (c := 81) rfl tc81
  have t86 := g_ag_at hA (c := 86) rfl tc86
  intro fu
  induction fu with
  | zero => intro x1 σ; exact G_none
  | succ fu ih =>
    intro x1 σ
    unfold m_X11_backs_2
    refine G_iload_n C dX11_backs_2 rfl 1 rfl ?_
    refine G_bipush C dX11_backs_3 (v := 39) (by decide +kernel) ?_
    refine G_icmp_ge C dX11_backs_5 (tgt := 26) (by decide) (fun c1 => ?_) (fun c1 => ?_)
    · exact G_vret C q dX11_backs_26
    · refine G_aload_n C dX11_backs_8 rfl 0 rfl ?_
      refine G_getR C f_X11_backs_19 t77 rfl dX11_backs_9 ?_
      refine G_iload_n C dX11_backs_12 rfl 1 rfl ?_
      refine G_aload_n C dX11_backs_13 rfl 0 rfl ?_
      refine G_getR C f_X11_backs_34 t77 rfl dX11_backs_14 ?_
      refine G_iload_n C dX11_backs_17 rfl 1 rfl ?_
      refine G_chk (fun h2 => ?_)
      refine G_ald C t86 h2 dX11_backs_18 ?_
      refine G_chk (fun h3 => ?_)
      refine G_ast C t81 h3 dX11_backs_19 ?_
      refine G_lts (fun σ4 => ?_)
      refine G_iinc C dX11_backs_20 1 rfl (v := (x1 + (1 : Int32))) (by rfl) rfl (lv' := [(1, .int (x1 + (1 : Int32))), (0, .ref (g_b X + 77))]) rfl ?_
      refine G_ltv (fun v => [(1, .int v), (0, .ref (g_b X + 77))]) (fun v5 => ?_)
      refine G_goto C dX11_backs_23 (tgt := 2) (by decide) ?_
      exact G_sub (ih v5 σ4) [1, 0] rfl
set_option maxHeartbeats 4000000 in
set_option maxRecDepth 100000 in
theorem w_m_X11_backs_0 {X : g_X (g_St)} (C : g_C X cX11_backs RX11 wsX11_backs rm_m_X11_backs 2) (q : g_qV X) (hA : g_ag L_m_X11_backs (g_n X) (g_T X)) (N : Nat) (σ : g_St) : G X 0 [(0, .ref (g_b X + 77))] [] σ (m_X11_backs N σ) := by
  unfold m_X11_backs
  refine G_iconst C dX11_backs_0 (v := 0) (by decide +kernel) ?_
  refine G_istore_n C dX11_backs_1 rfl rfl (lv' := [(1, .int (0 : Int32)), (0, .ref (g_b X + 77))]) rfl ?_
  exact G_sub (w_m_X11_backs_2 C q hA N N (0 : Int32) σ) [1, 0] rfl
theorem k_m_X11_backs (l : Launch) (E : g_E) (n : Nat) (T : Nat → g_Sh) (hA : g_ag L_m_X11_backs n T) (N : Nat) (σ : g_St) (a : g_St) (h : m_X11_backs N σ = some a) : Met l yX11_backs wsX11_backs rm_m_X11_backs (g_Pc E n T [.ref (E.2.1 + 77)] σ) (g_Qv E n T a) 0 0 (g_A E) :=
  g_metV (by decide +kernel) rfl rfl (Nat.le_of_ble_eq_true rfl) (fun M Qf C q => by rw [← h]; exact w_m_X11_backs_0 C q hA N σ)
def L_m_X11_runs : List Nat := [77, 79, 81, 86]
abbrev rm_m_X11_runs : Room := { frames := 3, cells := 0, slots := 0, locals := 66 }
theorem f_X11_runs_159 : g_Fld wsX11_runs RX11 159 11 8 := ⟨RX11, TX11, 27, rfl, by decide +kernel, by decide, by decide +kernel⟩
theorem f_X11_runs_19 : g_Fld wsX11_runs RX11 19 11 7 := ⟨RX11, TX11, 27, rfl, by decide +kernel, by decide, by decide +kernel⟩
theorem p_X11_runs_159 : g_FldP wsX11_runs RX11 159 11 8 .int := ⟨RX11, TX11, 27, tyX11, rfl, by decide +kernel, by decide, by decide +kernel, tyX11_ok, nmX11, rfl, by decide +kernel⟩
set_option maxHeartbeats 4000000 in
set_option maxRecDepth 100000 in
theorem w_m_X11_runs_32 {X : g_X (Int32 × g_St)} (C : g_C X cX11_runs RX11 wsX11_runs rm_m_X11_runs 6) (q : g_qI X) (hA : g_ag L_m_X11_runs (g_n X) (g_T X)) (N : Nat) : ∀ (fu : Nat) (x2 : Int32) (x3 : Int32) (x4 : Int32) (σ : g_St), G X 32 [(0, .ref (g_b X + 77)), (2, .int x2), (3, .int x3), (4, .int x4)] [] σ (m_X11_runs_32 N fu x2 x3 x4 σ) := by
  have t77 := g_ag_at hA (c := 77) rfl tc77
  have t81 := g_ag_at hA (c := 81) rfl tc81
  intro fu
  induction fu with
  | zero => intro x2 x3 x4 σ; exact G_none
  | succ fu ih =>
    intro x2 x3 x4 σ
    unfold m_X11_runs_32
    refine G_aload_n C dX11_runs_32 rfl 0 rfl ?_
    refine G_getR C f_X11_runs_19 t77 rfl dX11_runs_33 ?_
    refine G_iconst C dX11_runs_36 (v := 0) (by decide +kernel) ?_
    refine G_aldk C t81 (by decide +kernel) (k := 0) rfl dX11_runs_37 ?_
    refine G_iload C dX11_runs_38 3 rfl ?_
    refine G_icmp_ge C dX11_runs_40 (tgt := 55) (by decide) (fun c1 => ?_) (fun c1 => ?_)
    · refine G_aload_n C dX11_runs_55 rfl 0 rfl ?_
      refine G_callI (rest := []) (fun a ha => g_runV C (nargs := 0) (As := []) (rest := []) gX11_runs_X11_spread rfl (by decide +kernel) rfl t77 rfl rfl rfl rfl dX11_runs_56 (k_m_X11_spread X.1.2.1 X.2.1 (g_n X) (g_T X) (g_ag_sub hA (by decide +kernel)) N σ a ha)) (fun q2 => ?_)
      refine G_istore C dX11_runs_59 rfl (lv' := [(5, .int q2.1), (0, .ref (g_b X + 77)), (2, .int x2), (3, .int x3), (4, .int x4)]) rfl ?_
      refine G_aload_n C dX11_runs_61 rfl 1 rfl ?_
      refine G_callV (rest := []) (fun a ha => g_runV C (nargs := 0) (As := []) (rest := []) gX11_runs_X11_backs rfl (by decide +kernel) rfl t77 rfl rfl rfl rfl dX11_runs_62 (k_m_X11_backs X.1.2.1 X.2.1 (g_n X) (g_T X) (g_ag_sub hA (by decide +kernel)) N q2.2 a ha)) (fun σ3 => ?_)
      refine G_aload_n C dX11_runs_65 rfl 1 rfl ?_
      refine G_iload_n C dX11_runs_66 rfl 3 rfl ?_
      refine G_putI C p_X11_runs_159 t77 rfl rfl rfl dX11_runs_67 ?_
      refine G_lts (fun σ4 => ?_)
      refine G_iload C dX11_runs_70 0 rfl ?_
      exact G_iret C q dX11_runs_72
    · refine G_aload_n C dX11_runs_43 rfl 0 rfl ?_
      refine G_aload_n C dX11_runs_44 rfl 0 rfl ?_
      refine G_callI (rest := [.ref (g_b X + 77)]) (fun a ha => g_runV C (nargs := 0) (As := []) (rest := [.ref (g_b X + 77)]) gX11_runs_X11_lot rfl (by decide +kernel) rfl t77 rfl rfl rfl rfl dX11_runs_45 (k_m_X11_lot X.1.2.1 X.2.1 (g_n X) (g_T X) (g_ag_sub hA (by decide +kernel)) N σ a ha)) (fun q5 => ?_)
      refine G_iload_n C dX11_runs_48 rfl 1 rfl ?_
      refine G_callV (rest := []) (fun a ha => g_runV C (nargs := 2) (As := [.int q5.1, .int x2]) (rest := []) gX11_runs_X11_draws rfl (by decide +kernel) rfl t77 rfl rfl rfl rfl dX11_runs_49 (k_m_X11_draws X.1.2.1 X.2.1 (g_n X) (g_T X) (g_ag_sub hA (by decide +kernel)) q5.1 x2 q5.2 a ha)) (fun σ6 => ?_)
      refine G_goto C dX11_runs_52 (tgt := 32) (by decide) ?_
      exact ih x2 x3 x4 σ6
set_option maxHeartbeats 4000000 in
set_option maxRecDepth 100000 in
theorem w_m_X11_runs_0 {X : g_X (Int32 × g_St)} (C : g_C X cX11_runs RX11 wsX11_runs rm_m_X11_runs 6) (q : g_qI X) (hA : g_ag L_m_X11_runs (g_n X) (g_T X)) (N : Nat) (x1 : Int32) (x2 : Int32) (σ : g_St) : G X 0 [(0, .ref (g_b X + 77)), (1, .int x1), (2, .int x2)] [] σ (m_X11_runs N x1 x2 σ) := by
  have t77 := g_ag_at hA (c := 77) rfl tc77
  have t81 := g_ag_at hA (c := 81) rfl tc81
  unfold m_X11_runs
  refine G_aload_n C dX11_runs_0 rfl 0 rfl ?_
  refine G_getI C f_X11_runs_159 t77 rfl dX11_runs_1 ?_
  refine G_lti (fun v1 => ?_)
  refine G_istore_n C dX11_runs_4 rfl rfl (lv' := [(3, .int v1), (0, .ref (g_b X + 77)), (1, .int x1), (2, .int x2)]) rfl ?_
  refine G_aload_n C dX11_runs_5 rfl 1 rfl ?_
  refine G_getR C f_X11_runs_19 t77 rfl dX11_runs_6 ?_
  refine G_iconst C dX11_runs_9 (v := 1) (by decide +kernel) ?_
  refine G_iconst C dX11_runs_10 (v := 0) (by decide +kernel) ?_
  refine G_astk C t81 (by decide +kernel) (k := 1) rfl dX11_runs_11 ?_
  refine G_lts (fun σ2 => ?_)
  refine G_aload_n C dX11_runs_12 rfl 1 rfl ?_
  refine G_getR C f_X11_runs_19 t77 rfl dX11_runs_13 ?_
  refine G_iconst C dX11_runs_16 (v := 2) (by decide +kernel) ?_
  refine G_aload_n C dX11_runs_17 rfl 1 rfl ?_
  refine G_callI (rest := [.int (2 : Int32), .ref (g_b X + 81)]) (fun a ha => g_runV C (nargs := 0) (As := []) (rest := [.int (2 : Int32), .ref (g_b X + 81)]) gX11_runs_X11_all rfl (by decide +kernel) rfl t77 rfl rfl rfl rfl dX11_runs_18 (k_m_X11_all X.1.2.1 X.2.1 (g_n X) (g_T X) (g_ag_sub hA (by decide +kernel)) σ2 a ha)) (fun q3 => ?_)
  refine G_astk C t81 (by decide +kernel) (k := 2) rfl dX11_runs_21 ?_
  refine G_lts (fun σ4 => ?_)
  refine G_aload_n C dX11_runs_22 rfl 1 rfl ?_
  refine G_getR C f_X11_runs_19 t77 rfl dX11_runs_23 ?_
  refine G_iconst C dX11_runs_26 (v := 0) (by decide +kernel) ?_
  refine G_aldk C t81 (by decide +kernel) (k := 0) rfl dX11_runs_27 ?_
  refine G_iload_n C dX11_runs_28 rfl 2 rfl ?_
  refine G_iadd C dX11_runs_29 ?_
  refine G_lti (fun v5 => ?_)
  refine G_istore C dX11_runs_30 rfl (lv' := [(4, .int v5), (3, .int v1), (0, .ref (g_b X + 77)), (1, .int x1), (2, .int x2)]) rfl ?_
  exact G_sub (w_m_X11_runs_32 C q hA N N x2 v1 v5 σ4) [2, 4, 1, 0] rfl
theorem k_m_X11_runs (l : Launch) (E : g_E) (n : Nat) (T : Nat → g_Sh) (hA : g_ag L_m_X11_runs n T) (N : Nat) (x1 : Int32) (x2 : Int32) (σ : g_St) (a : Int32 × g_St) (h : m_X11_runs N x1 x2 σ = some a) : Met l yX11_runs wsX11_runs rm_m_X11_runs (g_Pc E n T [.ref (E.2.1 + 77), .int x1, .int x2] σ) (g_Qi E n T a) 0 0 (g_A E) :=
  g_metI (by decide +kernel) rfl rfl (Nat.le_of_ble_eq_true rfl) (fun M Qf C q => by rw [← h]; exact w_m_X11_runs_0 C q hA N x1 x2 σ)
def L_m_X11_evens : List Nat := [77, 79, 81, 86]
abbrev rm_m_X11_evens : Room := { frames := 4, cells := 0, slots := 0, locals := 91 }
theorem f_X11_evens_13 : g_Fld wsX11_evens RX11 13 11 1 := ⟨RX11, TX11, 27, rfl, by decide +kernel, by decide, by decide +kernel⟩
theorem c_X11_evens_151 : Cond.constant RX11 151 (-1000000003) ∈ wsX11_evens := by decide +kernel
theorem c_X11_evens_204 : Cond.constantLong RX11 204 (20) ∈ wsX11_evens := by decide +kernel
theorem c_X11_evens_71 : Cond.constant RX11 71 (-1000000002) ∈ wsX11_evens := by decide +kernel
set_option maxHeartbeats 4000000 in
set_option maxRecDepth 100000 in
theorem w_m_X11_evens_0 {X : g_X (Int32 × g_St)} (C : g_C X cX11_evens RX11 wsX11_evens rm_m_X11_evens 5) (q : g_qI X) (hA : g_ag L_m_X11_evens (g_n X) (g_T X)) (N : Nat) (x1 : Int32) (x2 : Int32) (σ : g_St) : G X 0 [(0, .ref (g_b X + 77)), (1, .int x1), (2, .int x2)] [] σ (m_X11_evens N x1 x2 σ) := by
  have t77 := g_ag_at hA (c := 77) rfl tc77
  have t79 := g_ag_at hA (c := 79) rfl tc79
  unfold m_X11_evens
  refine G_iload_n C dX11_evens_0 rfl 1 rfl ?_
  refine G_i2l C dX11_evens_1 ?_
  refine G_lconst C dX11_evens_2 (v := 1) (by decide +kernel) ?_
  refine G_ldc2 C dX11_evens_3 c_X11_evens_204 ?_
  refine G_callI (rest := []) (fun a ha => g_runS C (nargs := 3) (As := [.long (x1).toInt64, .long (1 : Int64), .long (20 : Int64)]) (rest := []) gX11_evens_X11_in rfl (by decide +kernel) rfl rfl rfl dX11_evens_6 (k_m_X11_in X.1.2.1 X.2.1 (g_n X) (g_T X) (g_ag_sub hA (by decide +kernel)) (x1).toInt64 (1 : Int64) (20 : Int64) σ a ha)) (fun q1 => ?_)
  refine G_if_eq C dX11_evens_9 (tgt := 22) (by decide) (fun c2 => ?_) (fun c2 => ?_)
  · refine G_ldc C dX11_evens_22 c_X11_evens_71 ?_
    exact G_iret C q dX11_evens_24
  · refine G_iload_n C dX11_evens_12 rfl 2 rfl ?_
    refine G_i2l C dX11_evens_13 ?_
    refine G_lconst C dX11_evens_14 (v := 0) (by decide +kernel) ?_
    refine G_lconst C dX11_evens_15 (v := 1) (by decide +kernel) ?_
    refine G_callI (rest := []) (fun a ha => g_runS C (nargs := 3) (As := [.long (x2).toInt64, .long (0 : Int64), .long (1 : Int64)]) (rest := []) gX11_evens_X11_in rfl (by decide +kernel) rfl rfl rfl dX11_evens_16 (k_m_X11_in X.1.2.1 X.2.1 (g_n X) (g_T X) (g_ag_sub hA (by decide +kernel)) (x2).toInt64 (0 : Int64) (1 : Int64) q1.2 a ha)) (fun q3 => ?_)
    refine G_if_ne C dX11_evens_19 (tgt := 25) (by decide) (fun c4 => ?_) (fun c4 => ?_)
    · refine G_ldc C dX11_evens_22 c_X11_evens_71 ?_
      exact G_iret C q dX11_evens_24
    · refine G_aload_n C dX11_evens_25 rfl 0 rfl ?_
      refine G_getR C f_X11_evens_13 t77 rfl dX11_evens_26 ?_
      refine G_iconst C dX11_evens_29 (v := 0) (by decide +kernel) ?_
      refine G_aldk C t79 (by decide +kernel) (k := 0) rfl dX11_evens_30 ?_
      refine G_if_eq C dX11_evens_31 (tgt := 43) (by decide) (fun c5 => ?_) (fun c5 => ?_)
      · refine G_ldc C dX11_evens_43 c_X11_evens_151 ?_
        exact G_iret C q dX11_evens_45
      · refine G_aload_n C dX11_evens_34 rfl 0 rfl ?_
        refine G_getR C f_X11_evens_13 t77 rfl dX11_evens_35 ?_
        refine G_iconst C dX11_evens_38 (v := 1) (by decide +kernel) ?_
        refine G_aldk C t79 (by decide +kernel) (k := 1) rfl dX11_evens_39 ?_
        refine G_if_ne C dX11_evens_40 (tgt := 46) (by decide) (fun c6 => ?_) (fun c6 => ?_)
        · refine G_ldc C dX11_evens_43 c_X11_evens_151 ?_
          exact G_iret C q dX11_evens_45
        · refine G_aload_n C dX11_evens_46 rfl 0 rfl ?_
          refine G_callV (rest := []) (fun a ha => g_runV C (nargs := 0) (As := []) (rest := []) gX11_evens_X11_asides rfl (by decide +kernel) rfl t77 rfl rfl rfl rfl dX11_evens_47 (k_m_X11_asides X.1.2.1 X.2.1 (g_n X) (g_T X) (g_ag_sub hA (by decide +kernel)) N q3.2 a ha)) (fun σ7 => ?_)
          refine G_aload_n C dX11_evens_50 rfl 0 rfl ?_
          refine G_iload_n C dX11_evens_51 rfl 1 rfl ?_
          refine G_iconst C dX11_evens_52 (v := 1) (by decide +kernel) ?_
          refine G_callI (rest := []) (fun a ha => g_runV C (nargs := 2) (As := [.int x1, .int (1 : Int32)]) (rest := []) gX11_evens_X11_runs rfl (by decide +kernel) rfl t77 rfl rfl rfl rfl dX11_evens_53 (k_m_X11_runs X.1.2.1 X.2.1 (g_n X) (g_T X) (g_ag_sub hA (by decide +kernel)) N x1 (1 : Int32) σ7 a ha)) (fun q8 => ?_)
          refine G_istore_n C dX11_evens_56 rfl rfl (lv' := [(3, .int q8.1), (0, .ref (g_b X + 77)), (1, .int x1), (2, .int x2)]) rfl ?_
          refine G_aload_n C dX11_evens_57 rfl 1 rfl ?_
          refine G_iload_n C dX11_evens_58 rfl 2 rfl ?_
          refine G_iconst C dX11_evens_59 (v := 0) (by decide +kernel) ?_
          refine G_callI (rest := []) (fun a ha => g_runV C (nargs := 2) (As := [.int x1, .int (0 : Int32)]) (rest := []) gX11_evens_X11_runs rfl (by decide +kernel) rfl t77 rfl rfl rfl rfl dX11_evens_60 (k_m_X11_runs X.1.2.1 X.2.1 (g_n X) (g_T X) (g_ag_sub hA (by decide +kernel)) N x1 (0 : Int32) q8.2 a ha)) (fun q9 => ?_)
          refine G_istore C dX11_evens_63 rfl (lv' := [(4, .int q9.1), (3, .int q8.1), (0, .ref (g_b X + 77)), (1, .int x1), (2, .int x2)]) rfl ?_
          refine G_iload_n C dX11_evens_65 rfl 4 rfl ?_
          refine G_iconst C dX11_evens_66 (v := 1) (by decide +kernel) ?_
          refine G_icmp_ne C dX11_evens_67 (tgt := 85) (by decide) (fun c10 => ?_) (fun c10 => ?_)
          · refine G_iload_n C dX11_evens_70 rfl 1 rfl ?_
            refine G_iload C dX11_evens_71 0 rfl ?_
            refine G_icmp_ge C dX11_evens_73 (tgt := 80) (by decide) (fun c13 => ?_) (fun c13 => ?_)
            · refine G_iload C dX11_evens_80 0 rfl ?_
              refine G_goto C dX11_evens_82 (tgt := 106) (by decide) ?_
              exact G_iret C q dX11_evens_106
            · refine G_iload_n C dX11_evens_76 rfl 1 rfl ?_
              refine G_goto C dX11_evens_77 (tgt := 106) (by decide) ?_
              exact G_iret C q dX11_evens_106
          · refine G_iload_n C dX11_evens_85 rfl 1 rfl ?_
            refine G_iload C dX11_evens_86 0 rfl ?_
            refine G_icmp_ge C dX11_evens_88 (tgt := 95) (by decide) (fun c11 => ?_) (fun c11 => ?_)
            · refine G_iload C dX11_evens_95 0 rfl ?_
              refine G_iload_n C dX11_evens_97 rfl 1 rfl ?_
              refine G_icmp_ge C dX11_evens_98 (tgt := 105) (by decide) (fun c12 => ?_) (fun c12 => ?_)
              · refine G_iconst C dX11_evens_105 (v := 2) (by decide +kernel) ?_
                exact G_iret C q dX11_evens_106
              · refine G_iconst C dX11_evens_101 (v := 0) (by decide +kernel) ?_
                refine G_goto C dX11_evens_102 (tgt := 106) (by decide) ?_
                exact G_iret C q dX11_evens_106
            · refine G_iconst C dX11_evens_91 (v := 1) (by decide +kernel) ?_
              refine G_goto C dX11_evens_92 (tgt := 106) (by decide) ?_
              exact G_iret C q dX11_evens_106
theorem k_m_X11_evens (l : Launch) (E : g_E) (n : Nat) (T : Nat → g_Sh) (hA : g_ag L_m_X11_evens n T) (N : Nat) (x1 : Int32) (x2 : Int32) (σ : g_St) (a : Int32 × g_St) (h : m_X11_evens N x1 x2 σ = some a) : Met l yX11_evens wsX11_evens rm_m_X11_evens (g_Pc E n T [.ref (E.2.1 + 77), .int x1, .int x2] σ) (g_Qi E n T a) 0 0 (g_A E) :=
  g_metI (by decide +kernel) rfl rfl (Nat.le_of_ble_eq_true rfl) (fun M Qf C q => by rw [← h]; exact w_m_X11_evens_0 C q hA N x1 x2 σ)
