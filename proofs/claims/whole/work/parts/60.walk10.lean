def L_m_X11_goThrough : List Nat := [77, 79, 81, 86, 90]
abbrev rm_m_X11_goThrough : Room := { frames := 2, cells := 0, slots := 0, locals := 45 }
theorem f_X11_goThrough_116 : g_Fld wsX11_goThrough RX11 116 11 19 := ⟨RX11, TX11, 27, rfl, by decide +kernel, by decide, by decide +kernel⟩
theorem f_X11_goThrough_13 : g_Fld wsX11_goThrough RX11 13 11 1 := ⟨RX11, TX11, 27, rfl, by decide +kernel, by decide, by decide +kernel⟩
theorem f_X11_goThrough_19 : g_Fld wsX11_goThrough RX11 19 11 7 := ⟨RX11, TX11, 27, rfl, by decide +kernel, by decide, by decide +kernel⟩
theorem f_X11_goThrough_227 : g_Fld wsX11_goThrough RX11 227 11 23 := ⟨RX11, TX11, 27, rfl, by decide +kernel, by decide, by decide +kernel⟩
theorem f_X11_goThrough_229 : g_Fld wsX11_goThrough RX11 229 11 24 := ⟨RX11, TX11, 27, rfl, by decide +kernel, by decide, by decide +kernel⟩
theorem f_X11_goThrough_232 : g_Fld wsX11_goThrough RX11 232 11 25 := ⟨RX11, TX11, 27, rfl, by decide +kernel, by decide, by decide +kernel⟩
theorem f_X11_goThrough_46 : g_Fld wsX11_goThrough RX11 46 11 20 := ⟨RX11, TX11, 27, rfl, by decide +kernel, by decide, by decide +kernel⟩
theorem p_X11_goThrough_227 : g_FldP wsX11_goThrough RX11 227 11 23 .int := ⟨RX11, TX11, 27, tyX11, rfl, by decide +kernel, by decide, by decide +kernel, tyX11_ok, nmX11, rfl, by decide +kernel⟩
theorem p_X11_goThrough_229 : g_FldP wsX11_goThrough RX11 229 11 24 .int := ⟨RX11, TX11, 27, tyX11, rfl, by decide +kernel, by decide, by decide +kernel, tyX11_ok, nmX11, rfl, by decide +kernel⟩
theorem p_X11_goThrough_232 : g_FldP wsX11_goThrough RX11 232 11 25 .int := ⟨RX11, TX11, 27, tyX11, rfl, by decide +kernel, by decide, by decide +kernel, tyX11_ok, nmX11, rfl, by decide +kernel⟩
set_option maxHeartbeats 4000000 in
set_option maxRecDepth 100000 in
theorem w_m_X11_goThrough_282 {X : g_X (g_St)} (C : g_C X cX11_goThrough RX11 wsX11_goThrough rm_m_X11_goThrough 9) (q : g_qV X) (hA : g_ag L_m_X11_goThrough (g_n X) (g_T X)) (k48 : Int32 → Int32 → Int32 → g_St → Option (g_St)) (hk48 : ∀ (x1 : Int32) (x2 : Int32) (x3 : Int32) (σ : g_St), G X 48 [(0, .ref (g_b X + 77)), (1, .int x1), (2, .int x2), (3, .int x3)] [] σ (k48 x1 x2 x3 σ)) (N : Nat) (x1 : Int32) (x2 : Int32) (x3 : Int32) (s1 : Int32) (s2 : Int32) (σ : g_St) : G X 282 [(0, .ref (g_b X + 77)), (1, .int x1), (2, .int x2), (3, .int x3)] [.int s2, .int s1, .ref (g_b X + 77)] σ (m_X11_goThrough_282 k48 N x1 x2 x3 s1 s2 σ) := by
  have t77 := g_ag_at hA (c := 77) rfl tc77
  unfold m_X11_goThrough_282
  refine G_iadd C dX11_goThrough_282 ?_
  refine G_putI C p_X11_goThrough_227 t77 rfl rfl rfl dX11_goThrough_283 ?_
  refine G_lts (fun σ1 => ?_)
  refine G_iinc C dX11_goThrough_286 3 rfl (v := (x3 + (1 : Int32))) (by rfl) rfl (lv' := [(3, .int (x3 + (1 : Int32))), (0, .ref (g_b X + 77)), (1, .int x1), (2, .int x2)]) rfl ?_
  refine G_ltv (fun v => [(3, .int v), (0, .ref (g_b X + 77)), (1, .int x1), (2, .int x2)]) (fun v2 => ?_)
  refine G_goto C dX11_goThrough_289 (tgt := 48) (by decide) ?_
  exact G_sub (hk48 x1 x2 v2 σ1) [1, 2, 3, 0] rfl
set_option maxHeartbeats 4000000 in
set_option maxRecDepth 100000 in
theorem w_m_X11_goThrough_263 {X : g_X (g_St)} (C : g_C X cX11_goThrough RX11 wsX11_goThrough rm_m_X11_goThrough 9) (q : g_qV X) (hA : g_ag L_m_X11_goThrough (g_n X) (g_T X)) (k48 : Int32 → Int32 → Int32 → g_St → Option (g_St)) (hk48 : ∀ (x1 : Int32) (x2 : Int32) (x3 : Int32) (σ : g_St), G X 48 [(0, .ref (g_b X + 77)), (1, .int x1), (2, .int x2), (3, .int x3)] [] σ (k48 x1 x2 x3 σ)) (N : Nat) (x1 : Int32) (x2 : Int32) (x3 : Int32) (x5 : Int32) (s1 : Int32) (s2 : Int32) (σ : g_St) : G X 263 [(0, .ref (g_b X + 77)), (1, .int x1), (2, .int x2), (3, .int x3), (5, .int x5)] [.int s2, .int s1, .ref (g_b X + 77)] σ (m_X11_goThrough_263 k48 N x1 x2 x3 x5 s1 s2 σ) := by
  have t77 := g_ag_at hA (c := 77) rfl tc77
  unfold m_X11_goThrough_263
  refine G_iand C dX11_goThrough_263 ?_
  refine G_putI C p_X11_goThrough_232 t77 rfl rfl rfl dX11_goThrough_264 ?_
  refine G_lts (fun σ1 => ?_)
  refine G_aload_n C dX11_goThrough_267 rfl 0 rfl ?_
  refine G_dup C dX11_goThrough_268 rfl ?_
  refine G_getI C f_X11_goThrough_227 t77 rfl dX11_goThrough_269 ?_
  refine G_iload C dX11_goThrough_272 4 rfl ?_
  refine G_if_eq C dX11_goThrough_274 (tgt := 281) (by decide) (fun c2 => ?_) (fun c2 => ?_)
  · refine G_iconst C dX11_goThrough_281 (v := 0) (by decide +kernel) ?_
    exact G_sub (w_m_X11_goThrough_282 C q hA k48 hk48 N x1 x2 x3 (σ1.1 77 23) (0 : Int32) σ1) [0, 1, 2, 3] rfl
  · refine G_iconst C dX11_goThrough_277 (v := 1) (by decide +kernel) ?_
    refine G_goto C dX11_goThrough_278 (tgt := 282) (by decide) ?_
    exact G_sub (w_m_X11_goThrough_282 C q hA k48 hk48 N x1 x2 x3 (σ1.1 77 23) (1 : Int32) σ1) [0, 1, 2, 3] rfl
set_option maxHeartbeats 4000000 in
set_option maxRecDepth 100000 in
theorem w_m_X11_goThrough_244 {X : g_X (g_St)} (C : g_C X cX11_goThrough RX11 wsX11_goThrough rm_m_X11_goThrough 9) (q : g_qV X) (hA : g_ag L_m_X11_goThrough (g_n X) (g_T X)) (k48 : Int32 → Int32 → Int32 → g_St → Option (g_St)) (hk48 : ∀ (x1 : Int32) (x2 : Int32) (x3 : Int32) (σ : g_St), G X 48 [(0, .ref (g_b X + 77)), (1, .int x1), (2, .int x2), (3, .int x3)] [] σ (k48 x1 x2 x3 σ)) (N : Nat) (x1 : Int32) (x2 : Int32) (x3 : Int32) (x4 : Int32) (x5 : Int32) (s1 : Int32) (σ : g_St) : G X 244 [(0, .ref (g_b X + 77)), (1, .int x1), (2, .int x2), (3, .int x3), (4, .int x4), (5, .int x5)] [.int s1, .ref (g_b X + 77)] σ (m_X11_goThrough_244 k48 N x1 x2 x3 x4 x5 s1 σ) := by
  have t77 := g_ag_at hA (c := 77) rfl tc77
  unfold m_X11_goThrough_244
  refine G_putI C p_X11_goThrough_229 t77 rfl rfl rfl dX11_goThrough_244 ?_
  refine G_lts (fun σ1 => ?_)
  refine G_aload_n C dX11_goThrough_247 rfl 0 rfl ?_
  refine G_dup C dX11_goThrough_248 rfl ?_
  refine G_getI C f_X11_goThrough_232 t77 rfl dX11_goThrough_249 ?_
  refine G_iload C dX11_goThrough_252 5 rfl ?_
  refine G_if_eq C dX11_goThrough_254 (tgt := 262) (by decide) (fun c2 => ?_) (fun c2 => ?_)
  · refine G_iconst C dX11_goThrough_262 (v := -1) (by decide +kernel) ?_
    exact G_sub (w_m_X11_goThrough_263 C q hA k48 hk48 N x1 x2 x3 x5 (σ1.1 77 25) (-1 : Int32) σ1) [0, 1, 2, 3, 5] rfl
  · refine G_iload C dX11_goThrough_257 4 rfl ?_
    refine G_goto C dX11_goThrough_259 (tgt := 263) (by decide) ?_
    exact G_sub (w_m_X11_goThrough_263 C q hA k48 hk48 N x1 x2 x3 x5 (σ1.1 77 25) x4 σ1) [0, 1, 2, 3, 5] rfl
set_option maxHeartbeats 4000000 in
set_option maxRecDepth 100000 in
theorem w_m_X11_goThrough_240 {X : g_X (g_St)} (C : g_C X cX11_goThrough RX11 wsX11_goThrough rm_m_X11_goThrough 9) (q : g_qV X) (hA : g_ag L_m_X11_goThrough (g_n X) (g_T X)) (k48 : Int32 → Int32 → Int32 → g_St → Option (g_St)) (hk48 : ∀ (x1 : Int32) (x2 : Int32) (x3 : Int32) (σ : g_St), G X 48 [(0, .ref (g_b X + 77)), (1, .int x1), (2, .int x2), (3, .int x3)] [] σ (k48 x1 x2 x3 σ)) (N : Nat) (x1 : Int32) (x2 : Int32) (x3 : Int32) (x4 : Int32) (x5 : Int32) (σ : g_St) : G X 240 [(0, .ref (g_b X + 77)), (1, .int x1), (2, .int x2), (3, .int x3), (4, .int x4), (5, .int x5)] [.ref (g_b X + 77)] σ (m_X11_goThrough_240 k48 N x1 x2 x3 x4 x5 σ) := by
  have t77 := g_ag_at hA (c := 77) rfl tc77
  unfold m_X11_goThrough_240
  refine G_aload_n C dX11_goThrough_240 rfl 0 rfl ?_
  refine G_getI C f_X11_goThrough_229 t77 rfl dX11_goThrough_241 ?_
  exact w_m_X11_goThrough_244 C q hA k48 hk48 N x1 x2 x3 x4 x5 (σ.1 77 24) σ
set_option maxHeartbeats 4000000 in
set_option maxRecDepth 100000 in
theorem w_m_X11_goThrough_211 {X : g_X (g_St)} (C : g_C X cX11_goThrough RX11 wsX11_goThrough rm_m_X11_goThrough 9) (q : g_qV X) (hA : g_ag L_m_X11_goThrough (g_n X) (g_T X)) (k48 : Int32 → Int32 → Int32 → g_St → Option (g_St)) (hk48 : ∀ (x1 : Int32) (x2 : Int32) (x3 : Int32) (σ : g_St), G X 48 [(0, .ref (g_b X + 77)), (1, .int x1), (2, .int x2), (3, .int x3)] [] σ (k48 x1 x2 x3 σ)) (k157 : Int32 → Int32 → Int32 → Int32 → Int32 → Int32 → g_St → Option (g_St)) (hk157 : ∀ (x1 : Int32) (x2 : Int32) (x3 : Int32) (x4 : Int32) (x5 : Int32) (x7 : Int32) (σ : g_St), G X 157 [(0, .ref (g_b X + 77)), (1, .int x1), (2, .int x2), (3, .int x3), (4, .int x4), (5, .int x5), (7, .int x7)] [] σ (k157 x1 x2 x3 x4 x5 x7 σ)) (N : Nat) (x1 : Int32) (x2 : Int32) (x3 : Int32) (x4 : Int32) (x7 : Int32) (s0 : Int32) (σ : g_St) : G X 211 [(0, .ref (g_b X + 77)), (1, .int x1), (2, .int x2), (3, .int x3), (4, .int x4), (7, .int x7)] [.int s0] σ (m_X11_goThrough_211 k48 k157 N x1 x2 x3 x4 x7 s0 σ) := by
  unfold m_X11_goThrough_211
  refine G_istore C dX11_goThrough_211 rfl (lv' := [(5, .int s0), (0, .ref (g_b X + 77)), (1, .int x1), (2, .int x2), (3, .int x3), (4, .int x4), (7, .int x7)]) rfl ?_
  refine G_iinc C dX11_goThrough_213 6 rfl (v := (x7 + (1 : Int32))) (by rfl) rfl (lv' := [(7, .int (x7 + (1 : Int32))), (5, .int s0), (0, .ref (g_b X + 77)), (1, .int x1), (2, .int x2), (3, .int x3), (4, .int x4)]) rfl ?_
  refine G_ltv (fun v => [(7, .int v), (5, .int s0), (0, .ref (g_b X + 77)), (1, .int x1), (2, .int x2), (3, .int x3), (4, .int x4)]) (fun v1 => ?_)
  refine G_goto C dX11_goThrough_216 (tgt := 157) (by decide) ?_
  exact G_sub (hk157 x1 x2 x3 x4 s0 v1 σ) [2, 3, 4, 5, 6, 1, 0] rfl
set_option maxHeartbeats 4000000 in
set_option maxRecDepth 100000 in
theorem w_m_X11_goThrough_210 {X : g_X (g_St)} (C : g_C X cX11_goThrough RX11 wsX11_goThrough rm_m_X11_goThrough 9) (q : g_qV X) (hA : g_ag L_m_X11_goThrough (g_n X) (g_T X)) (k48 : Int32 → Int32 → Int32 → g_St → Option (g_St)) (hk48 : ∀ (x1 : Int32) (x2 : Int32) (x3 : Int32) (σ : g_St), G X 48 [(0, .ref (g_b X + 77)), (1, .int x1), (2, .int x2), (3, .int x3)] [] σ (k48 x1 x2 x3 σ)) (k157 : Int32 → Int32 → Int32 → Int32 → Int32 → Int32 → g_St → Option (g_St)) (hk157 : ∀ (x1 : Int32) (x2 : Int32) (x3 : Int32) (x4 : Int32) (x5 : Int32) (x7 : Int32) (σ : g_St), G X 157 [(0, .ref (g_b X + 77)), (1, .int x1), (2, .int x2), (3, .int x3), (4, .int x4), (5, .int x5), (7, .int x7)] [] σ (k157 x1 x2 x3 x4 x5 x7 σ)) (N : Nat) (x1 : Int32) (x2 : Int32) (x3 : Int32) (x4 : Int32) (x7 : Int32) (σ : g_St) : G X 210 [(0, .ref (g_b X + 77)), (1, .int x1), (2, .int x2), (3, .int x3), (4, .int x4), (7, .int x7)] [] σ (m_X11_goThrough_210 k48 k157 N x1 x2 x3 x4 x7 σ) := by
  unfold m_X11_goThrough_210
  refine G_iconst C dX11_goThrough_210 (v := 0) (by decide +kernel) ?_
  exact w_m_X11_goThrough_211 C q hA k48 hk48 k157 hk157 N x1 x2 x3 x4 x7 (0 : Int32) σ
set_option maxHeartbeats 4000000 in
set_option maxRecDepth 100000 in
theorem w_m_X11_goThrough_206 {X : g_X (g_St)} (C : g_C X cX11_goThrough RX11 wsX11_goThrough rm_m_X11_goThrough 9) (q : g_qV X) (hA : g_ag L_m_X11_goThrough (g_n X) (g_T X)) (k48 : Int32 → Int32 → Int32 → g_St → Option (g_St)) (hk48 : ∀ (x1 : Int32) (x2 : Int32) (x3 : Int32) (σ : g_St), G X 48 [(0, .ref (g_b X + 77)), (1, .int x1), (2, .int x2), (3, .int x3)] [] σ (k48 x1 x2 x3 σ)) (k157 : Int32 → Int32 → Int32 → Int32 → Int32 → Int32 → g_St → Option (g_St)) (hk157 : ∀ (x1 : Int32) (x2 : Int32) (x3 : Int32) (x4 : Int32) (x5 : Int32) (x7 : Int32) (σ : g_St), G X 157 [(0, .ref (g_b X + 77)), (1, .int x1), (2, .int x2), (3, .int x3), (4, .int x4), (5, .int x5), (7, .int x7)] [] σ (k157 x1 x2 x3 x4 x5 x7 σ)) (N : Nat) (x1 : Int32) (x2 : Int32) (x3 : Int32) (x4 : Int32) (x7 : Int32) (σ : g_St) : G X 206 [(0, .ref (g_b X + 77)), (1, .int x1), (2, .int x2), (3, .int x3), (4, .int x4), (7, .int x7)] [] σ (m_X11_goThrough_206 k48 k157 N x1 x2 x3 x4 x7 σ) := by
  unfold m_X11_goThrough_206
  refine G_iconst C dX11_goThrough_206 (v := 1) (by decide +kernel) ?_
  refine G_goto C dX11_goThrough_207 (tgt := 211) (by decide) ?_
  exact w_m_X11_goThrough_211 C q hA k48 hk48 k157 hk157 N x1 x2 x3 x4 x7 (1 : Int32) σ
set_option maxHeartbeats 4000000 in
set_option maxRecDepth 100000 in
theorem w_m_X11_goThrough_157 {X : g_X (g_St)} (C : g_C X cX11_goThrough RX11 wsX11_goThrough rm_m_X11_goThrough 9) (q : g_qV X) (hA : g_ag L_m_X11_goThrough (g_n X) (g_T X)) (k48 : Int32 → Int32 → Int32 → g_St → Option (g_St)) (hk48 : ∀ (x1 : Int32) (x2 : Int32) (x3 : Int32) (σ : g_St), G X 48 [(0, .ref (g_b X + 77)), (1, .int x1), (2, .int x2), (3, .int x3)] [] σ (k48 x1 x2 x3 σ)) (N : Nat) : ∀ (fu : Nat) (x1 : Int32) (x2 : Int32) (x3 : Int32) (x4 : Int32) (x5 : Int32) (x7 : Int32) (σ : g_St), G X 157 [(0, .ref (g_b X + 77)), (1, .int x1), (2, .int x2), (3, .int x3), (4, .int x4), (5, .int x5), (7, .int x7)] [] σ (m_X11_goThrough_157 k48 N fu x1 x2 x3 x4 x5 x7 σ) := by
  have t77 := g_ag_at hA (c := 77) rfl tc77
  have t79 := g_ag_at hA (c := 79) rfl tc79
  have t81 := g_ag_at hA (c := 81) rfl tc81
  have t90 := g_ag_at hA (c := 90) rfl tc90
  intro fu
  induction fu with
  | zero => intro x1 x2 x3 x4 x5 x7 σ; exact G_none
  | succ fu ih =>
    intro x1 x2 x3 x4 x5 x7 σ
    unfold m_X11_goThrough_157
    refine G_iload C dX11_goThrough_157 6 rfl ?_
    refine G_aload_n C dX11_goThrough_159 rfl 0 rfl ?_
    refine G_getR C f_X11_goThrough_13 t77 rfl dX11_goThrough_160 ?_
    refine G_iconst C dX11_goThrough_163 (v := 0) (by decide +kernel) ?_
    refine G_aldk C t79 (by decide +kernel) (k := 0) rfl dX11_goThrough_164 ?_
    refine G_icmp_ge C dX11_goThrough_165 (tgt := 219) (by decide) (fun c1 => ?_) (fun c1 => ?_)
    · refine G_aload_n C dX11_goThrough_219 rfl 0 rfl ?_
      refine G_callV (rest := []) (fun a ha => g_runV C (nargs := 0) (As := []) (rest := []) gX11_goThrough_X11_backs rfl (by decide +kernel) rfl t77 rfl rfl rfl rfl dX11_goThrough_220 (k_m_X11_backs X.1.2.1 X.2.1 (g_n X) (g_T X) (g_ag_sub hA (by decide +kernel)) N σ a ha)) (fun σ2 => ?_)
      refine G_aload_n C dX11_goThrough_223 rfl 0 rfl ?_
      refine G_iload C dX11_goThrough_224 5 rfl ?_
      refine G_if_eq C dX11_goThrough_226 (tgt := 240) (by decide) (fun c3 => ?_) (fun c3 => ?_)
      · exact G_sub (w_m_X11_goThrough_240 C q hA k48 hk48 N x1 x2 x3 x4 x5 σ2) [0, 1, 2, 3, 4, 5] rfl
      · refine G_aload_n C dX11_goThrough_229 rfl 0 rfl ?_
        refine G_getI C f_X11_goThrough_227 t77 rfl dX11_goThrough_230 ?_
        refine G_if_ne C dX11_goThrough_233 (tgt := 240) (by decide) (fun c4 => ?_) (fun c4 => ?_)
        · refine G_iload_n C dX11_goThrough_236 rfl 3 rfl ?_
          refine G_goto C dX11_goThrough_237 (tgt := 244) (by decide) ?_
          exact G_sub (w_m_X11_goThrough_244 C q hA k48 hk48 N x1 x2 x3 x4 x5 x3 σ2) [0, 1, 2, 3, 4, 5] rfl
        · exact G_sub (w_m_X11_goThrough_240 C q hA k48 hk48 N x1 x2 x3 x4 x5 σ2) [0, 1, 2, 3, 4, 5] rfl
    · refine G_iload C dX11_goThrough_168 5 rfl ?_
      refine G_if_eq C dX11_goThrough_170 (tgt := 210) (by decide) (fun c5 => ?_) (fun c5 => ?_)
      · exact G_sub (w_m_X11_goThrough_210 C q hA k48 hk48 (m_X11_goThrough_157 k48 N fu) ih N x1 x2 x3 x4 x7 σ) [0, 1, 2, 3, 4, 6] rfl
      · refine G_aload_n C dX11_goThrough_173 rfl 0 rfl ?_
        refine G_getI C f_X11_goThrough_116 t77 rfl dX11_goThrough_174 ?_
        refine G_iload C dX11_goThrough_177 6 rfl ?_
        refine G_ishr C dX11_goThrough_179 ?_
        refine G_iconst C dX11_goThrough_180 (v := 1) (by decide +kernel) ?_
        refine G_iand C dX11_goThrough_181 ?_
        refine G_if_eq C dX11_goThrough_182 (tgt := 206) (by decide) (fun c6 => ?_) (fun c6 => ?_)
        · exact G_sub (w_m_X11_goThrough_206 C q hA k48 hk48 (m_X11_goThrough_157 k48 N fu) ih N x1 x2 x3 x4 x7 σ) [0, 1, 2, 3, 4, 6] rfl
        · refine G_aload_n C dX11_goThrough_185 rfl 0 rfl ?_
          refine G_getR C f_X11_goThrough_19 t77 rfl dX11_goThrough_186 ?_
          refine G_iconst C dX11_goThrough_189 (v := 3) (by decide +kernel) ?_
          refine G_iconst C dX11_goThrough_190 (v := 2) (by decide +kernel) ?_
          refine G_iload C dX11_goThrough_191 6 rfl ?_
          refine G_imul C dX11_goThrough_193 ?_
          refine G_iadd C dX11_goThrough_194 ?_
          refine G_chk (fun h7 => ?_)
          refine G_ald C t81 h7 dX11_goThrough_195 ?_
          refine G_aload_n C dX11_goThrough_196 rfl 0 rfl ?_
          refine G_getR C f_X11_goThrough_46 t77 rfl dX11_goThrough_197 ?_
          refine G_iload C dX11_goThrough_200 6 rfl ?_
          refine G_chk (fun h8 => ?_)
          refine G_ald C t90 h8 dX11_goThrough_202 ?_
          refine G_icmp_ne C dX11_goThrough_203 (tgt := 210) (by decide) (fun c9 => ?_) (fun c9 => ?_)
          · exact G_sub (w_m_X11_goThrough_206 C q hA k48 hk48 (m_X11_goThrough_157 k48 N fu) ih N x1 x2 x3 x4 x7 σ) [0, 1, 2, 3, 4, 6] rfl
          · exact G_sub (w_m_X11_goThrough_210 C q hA k48 hk48 (m_X11_goThrough_157 k48 N fu) ih N x1 x2 x3 x4 x7 σ) [0, 1, 2, 3, 4, 6] rfl
set_option maxHeartbeats 4000000 in
set_option maxRecDepth 100000 in
theorem w_m_X11_goThrough_154 {X : g_X (g_St)} (C : g_C X cX11_goThrough RX11 wsX11_goThrough rm_m_X11_goThrough 9) (q : g_qV X) (hA : g_ag L_m_X11_goThrough (g_n X) (g_T X)) (k48 : Int32 → Int32 → Int32 → g_St → Option (g_St)) (hk48 : ∀ (x1 : Int32) (x2 : Int32) (x3 : Int32) (σ : g_St), G X 48 [(0, .ref (g_b X + 77)), (1, .int x1), (2, .int x2), (3, .int x3)] [] σ (k48 x1 x2 x3 σ)) (N : Nat) (x1 : Int32) (x2 : Int32) (x3 : Int32) (x4 : Int32) (x5 : Int32) (σ : g_St) : G X 154 [(0, .ref (g_b X + 77)), (1, .int x1), (2, .int x2), (3, .int x3), (4, .int x4), (5, .int x5)] [] σ (m_X11_goThrough_154 k48 N x1 x2 x3 x4 x5 σ) := by
  unfold m_X11_goThrough_154
  refine G_iconst C dX11_goThrough_154 (v := 0) (by decide +kernel) ?_
  refine G_istore C dX11_goThrough_155 rfl (lv' := [(7, .int (0 : Int32)), (0, .ref (g_b X + 77)), (1, .int x1), (2, .int x2), (3, .int x3), (4, .int x4), (5, .int x5)]) rfl ?_
  exact G_sub (w_m_X11_goThrough_157 C q hA k48 hk48 N N x1 x2 x3 x4 x5 (0 : Int32) σ) [1, 2, 3, 4, 5, 6, 0] rfl
set_option maxHeartbeats 4000000 in
set_option maxRecDepth 100000 in
theorem w_m_X11_goThrough_148 {X : g_X (g_St)} (C : g_C X cX11_goThrough RX11 wsX11_goThrough rm_m_X11_goThrough 9) (q : g_qV X) (hA : g_ag L_m_X11_goThrough (g_n X) (g_T X)) (k48 : Int32 → Int32 → Int32 → g_St → Option (g_St)) (hk48 : ∀ (x1 : Int32) (x2 : Int32) (x3 : Int32) (σ : g_St), G X 48 [(0, .ref (g_b X + 77)), (1, .int x1), (2, .int x2), (3, .int x3)] [] σ (k48 x1 x2 x3 σ)) (k65 : Int32 → Int32 → Int32 → Int32 → Int32 → Int32 → Int32 → g_St → Option (g_St)) (hk65 : ∀ (x1 : Int32) (x2 : Int32) (x3 : Int32) (x4 : Int32) (x5 : Int32) (x6 : Int32) (x7 : Int32) (σ : g_St), G X 65 [(0, .ref (g_b X + 77)), (1, .int x1), (2, .int x2), (3, .int x3), (4, .int x4), (5, .int x5), (6, .int x6), (7, .int x7)] [] σ (k65 x1 x2 x3 x4 x5 x6 x7 σ)) (N : Nat) (x1 : Int32) (x2 : Int32) (x3 : Int32) (x4 : Int32) (x5 : Int32) (x6 : Int32) (x7 : Int32) (σ : g_St) : G X 148 [(0, .ref (g_b X + 77)), (1, .int x1), (2, .int x2), (3, .int x3), (4, .int x4), (5, .int x5), (6, .int x6), (7, .int x7)] [] σ (m_X11_goThrough_148 k48 k65 N x1 x2 x3 x4 x5 x6 x7 σ) := by
  unfold m_X11_goThrough_148
  refine G_iinc C dX11_goThrough_148 7 rfl (v := (x7 + (1 : Int32))) (by rfl) rfl (lv' := [(7, .int (x7 + (1 : Int32))), (0, .ref (g_b X + 77)), (1, .int x1), (2, .int x2), (3, .int x3), (4, .int x4), (5, .int x5), (6, .int x6)]) rfl ?_
  refine G_ltv (fun v => [(7, .int v), (0, .ref (g_b X + 77)), (1, .int x1), (2, .int x2), (3, .int x3), (4, .int x4), (5, .int x5), (6, .int x6)]) (fun v1 => ?_)
  refine G_goto C dX11_goThrough_151 (tgt := 65) (by decide) ?_
  exact G_sub (hk65 x1 x2 x3 x4 x5 x6 v1 σ) [1, 2, 3, 4, 5, 6, 7, 0] rfl
set_option maxHeartbeats 4000000 in
set_option maxRecDepth 100000 in
theorem w_m_X11_goThrough_120 {X : g_X (g_St)} (C : g_C X cX11_goThrough RX11 wsX11_goThrough rm_m_X11_goThrough 9) (q : g_qV X) (hA : g_ag L_m_X11_goThrough (g_n X) (g_T X)) (k48 : Int32 → Int32 → Int32 → g_St → Option (g_St)) (hk48 : ∀ (x1 : Int32) (x2 : Int32) (x3 : Int32) (σ : g_St), G X 48 [(0, .ref (g_b X + 77)), (1, .int x1), (2, .int x2), (3, .int x3)] [] σ (k48 x1 x2 x3 σ)) (k65 : Int32 → Int32 → Int32 → Int32 → Int32 → Int32 → Int32 → g_St → Option (g_St)) (hk65 : ∀ (x1 : Int32) (x2 : Int32) (x3 : Int32) (x4 : Int32) (x5 : Int32) (x6 : Int32) (x7 : Int32) (σ : g_St), G X 65 [(0, .ref (g_b X + 77)), (1, .int x1), (2, .int x2), (3, .int x3), (4, .int x4), (5, .int x5), (6, .int x6), (7, .int x7)] [] σ (k65 x1 x2 x3 x4 x5 x6 x7 σ)) (N : Nat) (x1 : Int32) (x2 : Int32) (x3 : Int32) (x4 : Int32) (x6 : Int32) (x7 : Int32) (x8 : Int32) (s0 : Int32) (σ : g_St) : G X 120 [(0, .ref (g_b X + 77)), (1, .int x1), (2, .int x2), (3, .int x3), (4, .int x4), (6, .int x6), (7, .int x7), (8, .int x8)] [.int s0] σ (m_X11_goThrough_120 k48 k65 N x1 x2 x3 x4 x6 x7 x8 s0 σ) := by
  have t77 := g_ag_at hA (c := 77) rfl tc77
  have t79 := g_ag_at hA (c := 79) rfl tc79
  unfold m_X11_goThrough_120
  refine G_istore C dX11_goThrough_120 rfl (lv' := [(5, .int s0), (0, .ref (g_b X + 77)), (1, .int x1), (2, .int x2), (3, .int x3), (4, .int x4), (6, .int x6), (7, .int x7), (8, .int x8)]) rfl ?_
  refine G_iload C dX11_goThrough_122 5 rfl ?_
  refine G_iconst C dX11_goThrough_124 (v := 1) (by decide +kernel) ?_
  refine G_iload C dX11_goThrough_125 8 rfl ?_
  refine G_ishl C dX11_goThrough_127 ?_
  refine G_ior C dX11_goThrough_128 ?_
  refine G_lti (fun v1 => ?_)
  refine G_istore C dX11_goThrough_129 rfl (lv' := [(4, .int v1), (5, .int s0), (0, .ref (g_b X + 77)), (1, .int x1), (2, .int x2), (3, .int x3), (6, .int x6), (7, .int x7), (8, .int x8)]) rfl ?_
  refine G_iload C dX11_goThrough_131 1 rfl ?_
  refine G_if_eq C dX11_goThrough_133 (tgt := 148) (by decide) (fun c2 => ?_) (fun c2 => ?_)
  · exact G_sub (w_m_X11_goThrough_148 C q hA k48 hk48 k65 hk65 N x1 x2 x3 v1 s0 x6 x7 σ) [2, 3, 4, 5, 0, 1, 6, 7] rfl
  · refine G_aload_n C dX11_goThrough_136 rfl 2 rfl ?_
    refine G_iload C dX11_goThrough_137 8 rfl ?_
    refine G_aload_n C dX11_goThrough_139 rfl 2 rfl ?_
    refine G_getR C f_X11_goThrough_13 t77 rfl dX11_goThrough_140 ?_
    refine G_iconst C dX11_goThrough_143 (v := 3) (by decide +kernel) ?_
    refine G_aldk C t79 (by decide +kernel) (k := 3) rfl dX11_goThrough_144 ?_
    refine G_callV (rest := []) (fun a ha => g_runV C (nargs := 2) (As := [.int x8, .int (σ.1 79 3)]) (rest := []) gX11_goThrough_X11_draws rfl (by decide +kernel) rfl t77 rfl rfl rfl rfl dX11_goThrough_145 (k_m_X11_draws X.1.2.1 X.2.1 (g_n X) (g_T X) (g_ag_sub hA (by decide +kernel)) x8 (σ.1 79 3) σ a ha)) (fun σ3 => ?_)
    exact G_sub (w_m_X11_goThrough_148 C q hA k48 hk48 k65 hk65 N x1 x2 x3 v1 s0 x6 x7 σ3) [2, 3, 4, 5, 0, 1, 6, 7] rfl
set_option maxHeartbeats 4000000 in
set_option maxRecDepth 100000 in
theorem w_m_X11_goThrough_65 {X : g_X (g_St)} (C : g_C X cX11_goThrough RX11 wsX11_goThrough rm_m_X11_goThrough 9) (q : g_qV X) (hA : g_ag L_m_X11_goThrough (g_n X) (g_T X)) (k48 : Int32 → Int32 → Int32 → g_St → Option (g_St)) (hk48 : ∀ (x1 : Int32) (x2 : Int32) (x3 : Int32) (σ : g_St), G X 48 [(0, .ref (g_b X + 77)), (1, .int x1), (2, .int x2), (3, .int x3)] [] σ (k48 x1 x2 x3 σ)) (N : Nat) : ∀ (fu : Nat) (x1 : Int32) (x2 : Int32) (x3 : Int32) (x4 : Int32) (x5 : Int32) (x6 : Int32) (x7 : Int32) (σ : g_St), G X 65 [(0, .ref (g_b X + 77)), (1, .int x1), (2, .int x2), (3, .int x3), (4, .int x4), (5, .int x5), (6, .int x6), (7, .int x7)] [] σ (m_X11_goThrough_65 k48 N fu x1 x2 x3 x4 x5 x6 x7 σ) := by
  have t77 := g_ag_at hA (c := 77) rfl tc77
  have t79 := g_ag_at hA (c := 79) rfl tc79
  have t81 := g_ag_at hA (c := 81) rfl tc81
  intro fu
  induction fu with
  | zero => intro x1 x2 x3 x4 x5 x6 x7 σ; exact G_none
  | succ fu ih =>
    intro x1 x2 x3 x4 x5 x6 x7 σ
    unfold m_X11_goThrough_65
    refine G_iload C dX11_goThrough_65 7 rfl ?_
    refine G_iload_n C dX11_goThrough_67 rfl 1 rfl ?_
    refine G_icmp_ge C dX11_goThrough_68 (tgt := 154) (by decide) (fun c1 => ?_) (fun c1 => ?_)
    · exact G_sub (w_m_X11_goThrough_154 C q hA k48 hk48 N x1 x2 x3 x4 x5 σ) [0, 1, 2, 3, 4, 5] rfl
    · refine G_iload C dX11_goThrough_71 5 rfl ?_
      refine G_if_eq C dX11_goThrough_73 (tgt := 154) (by decide) (fun c2 => ?_) (fun c2 => ?_)
      · exact G_sub (w_m_X11_goThrough_154 C q hA k48 hk48 N x1 x2 x3 x4 x5 σ) [0, 1, 2, 3, 4, 5] rfl
      · refine G_iload C dX11_goThrough_76 6 rfl ?_
        refine G_aload_n C dX11_goThrough_78 rfl 0 rfl ?_
        refine G_getR C f_X11_goThrough_13 t77 rfl dX11_goThrough_79 ?_
        refine G_iconst C dX11_goThrough_82 (v := 1) (by decide +kernel) ?_
        refine G_aldk C t79 (by decide +kernel) (k := 1) rfl dX11_goThrough_83 ?_
        refine G_chn (fun h3 => ?_)
        refine G_idiv C dX11_goThrough_84 h3 ?_
        refine G_lti (fun v4 => ?_)
        refine G_istore C dX11_goThrough_85 rfl (lv' := [(6, .int v4), (0, .ref (g_b X + 77)), (1, .int x1), (2, .int x2), (3, .int x3), (4, .int x4), (5, .int x5), (7, .int x7)]) rfl ?_
        refine G_iload_n C dX11_goThrough_87 rfl 4 rfl ?_
        refine G_iload C dX11_goThrough_88 0 rfl ?_
        refine G_chn (fun h5 => ?_)
        refine G_idiv C dX11_goThrough_90 h5 ?_
        refine G_aload_n C dX11_goThrough_91 rfl 1 rfl ?_
        refine G_getR C f_X11_goThrough_13 t77 rfl dX11_goThrough_92 ?_
        refine G_iconst C dX11_goThrough_95 (v := 1) (by decide +kernel) ?_
        refine G_aldk C t79 (by decide +kernel) (k := 1) rfl dX11_goThrough_96 ?_
        refine G_chn (fun h6 => ?_)
        refine G_irem C dX11_goThrough_97 h6 ?_
        refine G_lti (fun v7 => ?_)
        refine G_istore C dX11_goThrough_98 rfl (lv' := [(8, .int v7), (6, .int v4), (0, .ref (g_b X + 77)), (1, .int x1), (2, .int x2), (3, .int x3), (4, .int x4), (5, .int x5), (7, .int x7)]) rfl ?_
        refine G_aload_n C dX11_goThrough_100 rfl 2 rfl ?_
        refine G_getR C f_X11_goThrough_19 t77 rfl dX11_goThrough_101 ?_
        refine G_iconst C dX11_goThrough_104 (v := 2) (by decide +kernel) ?_
        refine G_aldk C t81 (by decide +kernel) (k := 2) rfl dX11_goThrough_105 ?_
        refine G_iload C dX11_goThrough_106 0 rfl ?_
        refine G_ishr C dX11_goThrough_108 ?_
        refine G_iconst C dX11_goThrough_109 (v := 1) (by decide +kernel) ?_
        refine G_iand C dX11_goThrough_110 ?_
        refine G_iconst C dX11_goThrough_111 (v := 1) (by decide +kernel) ?_
        refine G_icmp_ne C dX11_goThrough_112 (tgt := 119) (by decide) (fun c8 => ?_) (fun c8 => ?_)
        · refine G_iconst C dX11_goThrough_115 (v := 1) (by decide +kernel) ?_
          refine G_goto C dX11_goThrough_116 (tgt := 120) (by decide) ?_
          exact G_sub (w_m_X11_goThrough_120 C q hA k48 hk48 (m_X11_goThrough_65 k48 N fu) ih N x1 x2 x3 x4 v4 x7 v7 (1 : Int32) σ) [2, 3, 4, 5, 6, 1, 8, 0] rfl
        · refine G_iconst C dX11_goThrough_119 (v := 0) (by decide +kernel) ?_
          exact G_sub (w_m_X11_goThrough_120 C q hA k48 hk48 (m_X11_goThrough_65 k48 N fu) ih N x1 x2 x3 x4 v4 x7 v7 (0 : Int32) σ) [2, 3, 4, 5, 6, 1, 8, 0] rfl
set_option maxHeartbeats 4000000 in
set_option maxRecDepth 100000 in
theorem w_m_X11_goThrough_48 {X : g_X (g_St)} (C : g_C X cX11_goThrough RX11 wsX11_goThrough rm_m_X11_goThrough 9) (q : g_qV X) (hA : g_ag L_m_X11_goThrough (g_n X) (g_T X)) (N : Nat) : ∀ (fu : Nat) (x1 : Int32) (x2 : Int32) (x3 : Int32) (σ : g_St), G X 48 [(0, .ref (g_b X + 77)), (1, .int x1), (2, .int x2), (3, .int x3)] [] σ (m_X11_goThrough_48 N fu x1 x2 x3 σ) := by
  intro fu
  induction fu with
  | zero => intro x1 x2 x3 σ; exact G_none
  | succ fu ih =>
    intro x1 x2 x3 σ
    unfold m_X11_goThrough_48
    refine G_iload_n C dX11_goThrough_48 rfl 3 rfl ?_
    refine G_iload_n C dX11_goThrough_49 rfl 2 rfl ?_
    refine G_icmp_ge C dX11_goThrough_50 (tgt := 292) (by decide) (fun c1 => ?_) (fun c1 => ?_)
    · exact G_vret C q dX11_goThrough_292
    · refine G_iconst C dX11_goThrough_53 (v := 0) (by decide +kernel) ?_
      refine G_istore C dX11_goThrough_54 rfl (lv' := [(4, .int (0 : Int32)), (0, .ref (g_b X + 77)), (1, .int x1), (2, .int x2), (3, .int x3)]) rfl ?_
      refine G_iconst C dX11_goThrough_56 (v := 1) (by decide +kernel) ?_
      refine G_istore C dX11_goThrough_57 rfl (lv' := [(5, .int (1 : Int32)), (4, .int (0 : Int32)), (0, .ref (g_b X + 77)), (1, .int x1), (2, .int x2), (3, .int x3)]) rfl ?_
      refine G_iload_n C dX11_goThrough_59 rfl 4 rfl ?_
      refine G_istore C dX11_goThrough_60 rfl (lv' := [(6, .int x2), (5, .int (1 : Int32)), (4, .int (0 : Int32)), (0, .ref (g_b X + 77)), (1, .int x1), (2, .int x2), (3, .int x3)]) rfl ?_
      refine G_iconst C dX11_goThrough_62 (v := 0) (by decide +kernel) ?_
      refine G_istore C dX11_goThrough_63 rfl (lv' := [(7, .int (0 : Int32)), (6, .int x2), (5, .int (1 : Int32)), (4, .int (0 : Int32)), (0, .ref (g_b X + 77)), (1, .int x1), (2, .int x2), (3, .int x3)]) rfl ?_
      exact G_sub (w_m_X11_goThrough_65 C q hA (m_X11_goThrough_48 N fu) ih N N x1 x2 x3 (0 : Int32) (1 : Int32) x2 (0 : Int32) σ) [4, 5, 6, 7, 3, 2, 1, 0] rfl
set_option maxHeartbeats 4000000 in
set_option maxRecDepth 100000 in
theorem w_m_X11_goThrough_4 {X : g_X (g_St)} (C : g_C X cX11_goThrough RX11 wsX11_goThrough rm_m_X11_goThrough 9) (q : g_qV X) (hA : g_ag L_m_X11_goThrough (g_n X) (g_T X)) (N : Nat) : ∀ (fu : Nat) (x1 : Int32) (x2 : Int32) (x3 : Int32) (σ : g_St), G X 4 [(0, .ref (g_b X + 77)), (1, .int x1), (2, .int x2), (3, .int x3)] [] σ (m_X11_goThrough_4 N fu x1 x2 x3 σ) := by
  have t77 := g_ag_at hA (c := 77) rfl tc77
  have t79 := g_ag_at hA (c := 79) rfl tc79
  intro fu
  induction fu with
  | zero => intro x1 x2 x3 σ; exact G_none
  | succ fu ih =>
    intro x1 x2 x3 σ
    unfold m_X11_goThrough_4
    refine G_iload_n C dX11_goThrough_4 rfl 3 rfl ?_
    refine G_iload_n C dX11_goThrough_5 rfl 1 rfl ?_
    refine G_icmp_ge C dX11_goThrough_6 (tgt := 24) (by decide) (fun c1 => ?_) (fun c1 => ?_)
    · refine G_aload_n C dX11_goThrough_24 rfl 0 rfl ?_
      refine G_iconst C dX11_goThrough_25 (v := 0) (by decide +kernel) ?_
      refine G_putI C p_X11_goThrough_227 t77 rfl rfl rfl dX11_goThrough_26 ?_
      refine G_lts (fun σ2 => ?_)
      refine G_aload_n C dX11_goThrough_29 rfl 0 rfl ?_
      refine G_iconst C dX11_goThrough_30 (v := 0) (by decide +kernel) ?_
      refine G_putI C p_X11_goThrough_229 t77 rfl rfl rfl dX11_goThrough_31 ?_
      refine G_lts (fun σ3 => ?_)
      refine G_aload_n C dX11_goThrough_34 rfl 0 rfl ?_
      refine G_aload_n C dX11_goThrough_35 rfl 0 rfl ?_
      refine G_callI (rest := [.ref (g_b X + 77)]) (fun a ha => g_runV C (nargs := 0) (As := []) (rest := [.ref (g_b X + 77)]) gX11_goThrough_X11_all rfl (by decide +kernel) rfl t77 rfl rfl rfl rfl dX11_goThrough_36 (k_m_X11_all X.1.2.1 X.2.1 (g_n X) (g_T X) (g_ag_sub hA (by decide +kernel)) σ3 a ha)) (fun q4 => ?_)
      refine G_putI C p_X11_goThrough_232 t77 rfl rfl rfl dX11_goThrough_39 ?_
      refine G_lts (fun σ5 => ?_)
      refine G_aload_n C dX11_goThrough_42 rfl 0 rfl ?_
      refine G_callV (rest := []) (fun a ha => g_runV C (nargs := 0) (As := []) (rest := []) gX11_goThrough_X11_asides rfl (by decide +kernel) rfl t77 rfl rfl rfl rfl dX11_goThrough_43 (k_m_X11_asides X.1.2.1 X.2.1 (g_n X) (g_T X) (g_ag_sub hA (by decide +kernel)) N σ5 a ha)) (fun σ6 => ?_)
      refine G_iconst C dX11_goThrough_46 (v := 0) (by decide +kernel) ?_
      refine G_istore_n C dX11_goThrough_47 rfl rfl (lv' := [(3, .int (0 : Int32)), (0, .ref (g_b X + 77)), (1, .int x1), (2, .int x2)]) rfl ?_
      exact G_sub (w_m_X11_goThrough_48 C q hA N N x1 x2 (0 : Int32) σ6) [1, 2, 3, 0] rfl
    · refine G_iload_n C dX11_goThrough_9 rfl 2 rfl ?_
      refine G_aload_n C dX11_goThrough_10 rfl 0 rfl ?_
      refine G_getR C f_X11_goThrough_13 t77 rfl dX11_goThrough_11 ?_
      refine G_iconst C dX11_goThrough_14 (v := 1) (by decide +kernel) ?_
      refine G_aldk C t79 (by decide +kernel) (k := 1) rfl dX11_goThrough_15 ?_
      refine G_imul C dX11_goThrough_16 ?_
      refine G_lti (fun v7 => ?_)
      refine G_istore_n C dX11_goThrough_17 rfl rfl (lv' := [(2, .int v7), (0, .ref (g_b X + 77)), (1, .int x1), (3, .int x3)]) rfl ?_
      refine G_iinc C dX11_goThrough_18 3 rfl (v := (x3 + (1 : Int32))) (by rfl) rfl (lv' := [(3, .int (x3 + (1 : Int32))), (2, .int v7), (0, .ref (g_b X + 77)), (1, .int x1)]) rfl ?_
      refine G_ltv (fun v => [(3, .int v), (2, .int v7), (0, .ref (g_b X + 77)), (1, .int x1)]) (fun v8 => ?_)
      refine G_goto C dX11_goThrough_21 (tgt := 4) (by decide) ?_
      exact G_sub (ih x1 v7 v8 σ) [2, 3, 1, 0] rfl
set_option maxHeartbeats 4000000 in
set_option maxRecDepth 100000 in
theorem w_m_X11_goThrough_0 {X : g_X (g_St)} (C : g_C X cX11_goThrough RX11 wsX11_goThrough rm_m_X11_goThrough 9) (q : g_qV X) (hA : g_ag L_m_X11_goThrough (g_n X) (g_T X)) (N : Nat) (x1 : Int32) (σ : g_St) : G X 0 [(0, .ref (g_b X + 77)), (1, .int x1)] [] σ (m_X11_goThrough N x1 σ) := by
  unfold m_X11_goThrough
  refine G_iconst C dX11_goThrough_0 (v := 1) (by decide +kernel) ?_
  refine G_istore_n C dX11_goThrough_1 rfl rfl (lv' := [(2, .int (1 : Int32)), (0, .ref (g_b X + 77)), (1, .int x1)]) rfl ?_
  refine G_iconst C dX11_goThrough_2 (v := 0) (by decide +kernel) ?_
  refine G_istore_n C dX11_goThrough_3 rfl rfl (lv' := [(3, .int (0 : Int32)), (2, .int (1 : Int32)), (0, .ref (g_b X + 77)), (1, .int x1)]) rfl ?_
  exact G_sub (w_m_X11_goThrough_4 C q hA N N x1 (1 : Int32) (0 : Int32) σ) [2, 3, 1, 0] rfl
theorem k_m_X11_goThrough (l : Launch) (E : g_E) (n : Nat) (T : Nat → g_Sh) (hA : g_ag L_m_X11_goThrough n T) (N : Nat) (x1 : Int32) (σ : g_St) (a : g_St) (h : m_X11_goThrough N x1 σ = some a) : Met l yX11_goThrough wsX11_goThrough rm_m_X11_goThrough (g_Pc E n T [.ref (E.2.1 + 77), .int x1] σ) (g_Qv E n T a) 0 0 (g_A E) :=
  g_metV (by decide +kernel) rfl rfl (Nat.le_of_ble_eq_true rfl) (fun M Qf C q => by rw [← h]; exact w_m_X11_goThrough_0 C q hA N x1 σ)
def L_m_X11_rows : List Nat := [77, 79, 81, 86, 90]
abbrev rm_m_X11_rows : Room := { frames := 3, cells := 0, slots := 0, locals := 73 }
theorem f_X11_rows_13 : g_Fld wsX11_rows RX11 13 11 1 := ⟨RX11, TX11, 27, rfl, by decide +kernel, by decide, by decide +kernel⟩
theorem f_X11_rows_227 : g_Fld wsX11_rows RX11 227 11 23 := ⟨RX11, TX11, 27, rfl, by decide +kernel, by decide, by decide +kernel⟩
theorem f_X11_rows_229 : g_Fld wsX11_rows RX11 229 11 24 := ⟨RX11, TX11, 27, rfl, by decide +kernel, by decide, by decide +kernel⟩
theorem c_X11_rows_151 : Cond.constant RX11 151 (-1000000003) ∈ wsX11_rows := by decide +kernel
theorem c_X11_rows_235 : Cond.constantLong RX11 235 (4) ∈ wsX11_rows := by decide +kernel
theorem c_X11_rows_71 : Cond.constant RX11 71 (-1000000002) ∈ wsX11_rows := by decide +kernel
set_option maxHeartbeats 4000000 in
set_option maxRecDepth 100000 in
theorem w_m_X11_rows_74 {X : g_X (Int32 × g_St)} (C : g_C X cX11_rows RX11 wsX11_rows rm_m_X11_rows 5) (q : g_qI X) (hA : g_ag L_m_X11_rows (g_n X) (g_T X)) (N : Nat) : ∀ (fu : Nat) (x2 : Int32) (x3 : Int32) (x4 : Int32) (σ : g_St), G X 74 [(0, .ref (g_b X + 77)), (2, .int x2), (3, .int x3), (4, .int x4)] [] σ (m_X11_rows_74 N fu x2 x3 x4 σ) := by
  have t77 := g_ag_at hA (c := 77) rfl tc77
  have t79 := g_ag_at hA (c := 79) rfl tc79
  intro fu
  induction fu with
  | zero => intro x2 x3 x4 σ; exact G_none
  | succ fu ih =>
    intro x2 x3 x4 σ
    unfold m_X11_rows_74
    refine G_iload C dX11_rows_74 3 rfl ?_
    refine G_iload_n C dX11_rows_76 rfl 1 rfl ?_
    refine G_icmp_le C dX11_rows_77 (tgt := 95) (by decide) (fun c1 => ?_) (fun c1 => ?_)
    · refine G_iload_n C dX11_rows_95 rfl 2 rfl ?_
      refine G_aload_n C dX11_rows_96 rfl 0 rfl ?_
      refine G_getR C f_X11_rows_13 t77 rfl dX11_rows_97 ?_
      refine G_iconst C dX11_rows_100 (v := 1) (by decide +kernel) ?_
      refine G_aldk C t79 (by decide +kernel) (k := 1) rfl dX11_rows_101 ?_
      refine G_chn (fun h2 => ?_)
      refine G_irem C dX11_rows_102 h2 ?_
      exact G_iret C q dX11_rows_103
    · refine G_iload_n C dX11_rows_80 rfl 2 rfl ?_
      refine G_aload_n C dX11_rows_81 rfl 0 rfl ?_
      refine G_getR C f_X11_rows_13 t77 rfl dX11_rows_82 ?_
      refine G_iconst C dX11_rows_85 (v := 1) (by decide +kernel) ?_
      refine G_aldk C t79 (by decide +kernel) (k := 1) rfl dX11_rows_86 ?_
      refine G_chn (fun h3 => ?_)
      refine G_idiv C dX11_rows_87 h3 ?_
      refine G_lti (fun v4 => ?_)
      refine G_istore_n C dX11_rows_88 rfl rfl (lv' := [(3, .int v4), (0, .ref (g_b X + 77)), (2, .int x2), (4, .int x4)]) rfl ?_
      refine G_iinc C dX11_rows_89 3 rfl (v := (x4 + (-1 : Int32))) (by rfl) rfl (lv' := [(4, .int (x4 + (-1 : Int32))), (3, .int v4), (0, .ref (g_b X + 77)), (2, .int x2)]) rfl ?_
      refine G_ltv (fun v => [(4, .int v), (3, .int v4), (0, .ref (g_b X + 77)), (2, .int x2)]) (fun v5 => ?_)
      refine G_goto C dX11_rows_92 (tgt := 74) (by decide) ?_
      exact G_sub (ih x2 v4 v5 σ) [2, 3, 1, 0] rfl
set_option maxHeartbeats 4000000 in
set_option maxRecDepth 100000 in
theorem w_m_X11_rows_0 {X : g_X (Int32 × g_St)} (C : g_C X cX11_rows RX11 wsX11_rows rm_m_X11_rows 5) (q : g_qI X) (hA : g_ag L_m_X11_rows (g_n X) (g_T X)) (N : Nat) (x1 : Int32) (x2 : Int32) (σ : g_St) : G X 0 [(0, .ref (g_b X + 77)), (1, .int x1), (2, .int x2)] [] σ (m_X11_rows N x1 x2 σ) := by
  have t77 := g_ag_at hA (c := 77) rfl tc77
  have t79 := g_ag_at hA (c := 79) rfl tc79
  unfold m_X11_rows
  refine G_iload_n C dX11_rows_0 rfl 1 rfl ?_
  refine G_i2l C dX11_rows_1 ?_
  refine G_lconst C dX11_rows_2 (v := 1) (by decide +kernel) ?_
  refine G_ldc2 C dX11_rows_3 c_X11_rows_235 ?_
  refine G_callI (rest := []) (fun a ha => g_runS C (nargs := 3) (As := [.long (x1).toInt64, .long (1 : Int64), .long (4 : Int64)]) (rest := []) gX11_rows_X11_in rfl (by decide +kernel) rfl rfl rfl dX11_rows_6 (k_m_X11_in X.1.2.1 X.2.1 (g_n X) (g_T X) (g_ag_sub hA (by decide +kernel)) (x1).toInt64 (1 : Int64) (4 : Int64) σ a ha)) (fun q1 => ?_)
  refine G_if_ne C dX11_rows_9 (tgt := 15) (by decide) (fun c2 => ?_) (fun c2 => ?_)
  · refine G_ldc C dX11_rows_12 c_X11_rows_71 ?_
    exact G_iret C q dX11_rows_14
  · refine G_aload_n C dX11_rows_15 rfl 0 rfl ?_
    refine G_getR C f_X11_rows_13 t77 rfl dX11_rows_16 ?_
    refine G_iconst C dX11_rows_19 (v := 1) (by decide +kernel) ?_
    refine G_aldk C t79 (by decide +kernel) (k := 1) rfl dX11_rows_20 ?_
    refine G_if_ne C dX11_rows_21 (tgt := 27) (by decide) (fun c3 => ?_) (fun c3 => ?_)
    · refine G_ldc C dX11_rows_24 c_X11_rows_151 ?_
      exact G_iret C q dX11_rows_26
    · refine G_aload_n C dX11_rows_27 rfl 0 rfl ?_
      refine G_iload_n C dX11_rows_28 rfl 1 rfl ?_
      refine G_callV (rest := []) (fun a ha => g_runV C (nargs := 1) (As := [.int x1]) (rest := []) gX11_rows_X11_goThrough rfl (by decide +kernel) rfl t77 rfl rfl rfl rfl dX11_rows_29 (k_m_X11_goThrough X.1.2.1 X.2.1 (g_n X) (g_T X) (g_ag_sub hA (by decide +kernel)) N x1 q1.2 a ha)) (fun σ4 => ?_)
      refine G_iload_n C dX11_rows_32 rfl 2 rfl ?_
      refine G_iconst C dX11_rows_33 (v := -1) (by decide +kernel) ?_
      refine G_icmp_ne C dX11_rows_34 (tgt := 42) (by decide) (fun c5 => ?_) (fun c5 => ?_)
      · refine G_aload_n C dX11_rows_37 rfl 0 rfl ?_
        refine G_getI C f_X11_rows_227 t77 rfl dX11_rows_38 ?_
        exact G_iret C q dX11_rows_41
      · refine G_aload_n C dX11_rows_42 rfl 0 rfl ?_
        refine G_getI C f_X11_rows_227 t77 rfl dX11_rows_43 ?_
        refine G_if_eq C dX11_rows_46 (tgt := 62) (by decide) (fun c6 => ?_) (fun c6 => ?_)
        · refine G_iconst C dX11_rows_62 (v := -1) (by decide +kernel) ?_
          exact G_iret C q dX11_rows_63
        · refine G_iload_n C dX11_rows_49 rfl 2 rfl ?_
          refine G_i2l C dX11_rows_50 ?_
          refine G_lconst C dX11_rows_51 (v := 0) (by decide +kernel) ?_
          refine G_iload_n C dX11_rows_52 rfl 1 rfl ?_
          refine G_iconst C dX11_rows_53 (v := 1) (by decide +kernel) ?_
          refine G_isub C dX11_rows_54 ?_
          refine G_i2l C dX11_rows_55 ?_
          refine G_callI (rest := []) (fun a ha => g_runS C (nargs := 3) (As := [.long (x2).toInt64, .long (0 : Int64), .long ((x1 - (1 : Int32))).toInt64]) (rest := []) gX11_rows_X11_in rfl (by decide +kernel) rfl rfl rfl dX11_rows_56 (k_m_X11_in X.1.2.1 X.2.1 (g_n X) (g_T X) (g_ag_sub hA (by decide +kernel)) (x2).toInt64 (0 : Int64) ((x1 - (1 : Int32))).toInt64 σ4 a ha)) (fun q7 => ?_)
          refine G_if_ne C dX11_rows_59 (tgt := 64) (by decide) (fun c8 => ?_) (fun c8 => ?_)
          · refine G_iconst C dX11_rows_62 (v := -1) (by decide +kernel) ?_
            exact G_iret C q dX11_rows_63
          · refine G_aload_n C dX11_rows_64 rfl 0 rfl ?_
            refine G_getI C f_X11_rows_229 t77 rfl dX11_rows_65 ?_
            refine G_lti (fun v9 => ?_)
            refine G_istore_n C dX11_rows_68 rfl rfl (lv' := [(3, .int v9), (0, .ref (g_b X + 77)), (1, .int x1), (2, .int x2)]) rfl ?_
            refine G_iload_n C dX11_rows_69 rfl 2 rfl ?_
            refine G_iconst C dX11_rows_70 (v := 1) (by decide +kernel) ?_
            refine G_isub C dX11_rows_71 ?_
            refine G_lti (fun v10 => ?_)
            refine G_istore C dX11_rows_72 rfl (lv' := [(4, .int v10), (3, .int v9), (0, .ref (g_b X + 77)), (1, .int x1), (2, .int x2)]) rfl ?_
            exact G_sub (w_m_X11_rows_74 C q hA N N x2 v9 v10 q7.2) [2, 4, 1, 0] rfl
theorem k_m_X11_rows (l : Launch) (E : g_E) (n : Nat) (T : Nat → g_Sh) (hA : g_ag L_m_X11_rows n T) (N : Nat) (x1 : Int32) (x2 : Int32) (σ : g_St) (a : Int32 × g_St) (h : m_X11_rows N x1 x2 σ = some a) : Met l yX11_rows wsX11_rows rm_m_X11_rows (g_Pc E n T [.ref (E.2.1 + 77), .int x1, .int x2] σ) (g_Qi E n T a) 0 0 (g_A E) :=
  g_metI (by decide +kernel) rfl rfl (Nat.le_of_ble_eq_true rfl) (fun M Qf C q => by rw [← h]; exact w_m_X11_rows_0 C q hA N x1 x2 σ)
def L_m_X11_sure : List Nat := [77, 79, 81, 86, 90]
abbrev rm_m_X11_sure : Room := { frames := 3, cells := 0, slots := 0, locals := 73 }
theorem f_X11_sure_13 : g_Fld wsX11_sure RX11 13 11 1 := ⟨RX11, TX11, 27, rfl, by decide +kernel, by decide, by decide +kernel⟩
theorem f_X11_sure_227 : g_Fld wsX11_sure RX11 227 11 23 := ⟨RX11, TX11, 27, rfl, by decide +kernel, by decide, by decide +kernel⟩
theorem f_X11_sure_232 : g_Fld wsX11_sure RX11 232 11 25 := ⟨RX11, TX11, 27, rfl, by decide +kernel, by decide, by decide +kernel⟩
theorem c_X11_sure_151 : Cond.constant RX11 151 (-1000000003) ∈ wsX11_sure := by decide +kernel
theorem c_X11_sure_235 : Cond.constantLong RX11 235 (4) ∈ wsX11_sure := by decide +kernel
theorem c_X11_sure_71 : Cond.constant RX11 71 (-1000000002) ∈ wsX11_sure := by decide +kernel
set_option maxHeartbeats 4000000 in
set_option maxRecDepth 100000 in
theorem w_m_X11_sure_0 {X : g_X (Int32 × g_St)} (C : g_C X cX11_sure RX11 wsX11_sure rm_m_X11_sure 2) (q : g_qI X) (hA : g_ag L_m_X11_sure (g_n X) (g_T X)) (N : Nat) (x1 : Int32) (σ : g_St) : G X 0 [(0, .ref (g_b X + 77)), (1, .int x1)] [] σ (m_X11_sure N x1 σ) := by
  have t77 := g_ag_at hA (c := 77) rfl tc77
  have t79 := g_ag_at hA (c := 79) rfl tc79
  unfold m_X11_sure
  refine G_iload_n C dX11_sure_0 rfl 1 rfl ?_
  refine G_i2l C dX11_sure_1 ?_
  refine G_lconst C dX11_sure_2 (v := 1) (by decide +kernel) ?_
  refine G_ldc2 C dX11_sure_3 c_X11_sure_235 ?_
  refine G_callI (rest := []) (fun a ha => g_runS C (nargs := 3) (As := [.long (x1).toInt64, .long (1 : Int64), .long (4 : Int64)]) (rest := []) gX11_sure_X11_in rfl (by decide +kernel) rfl rfl rfl dX11_sure_6 (k_m_X11_in X.1.2.1 X.2.1 (g_n X) (g_T X) (g_ag_sub hA (by decide +kernel)) (x1).toInt64 (1 : Int64) (4 : Int64) σ a ha)) (fun q1 => ?_)
  refine G_if_ne C dX11_sure_9 (tgt := 15) (by decide) (fun c2 => ?_) (fun c2 => ?_)
  · refine G_ldc C dX11_sure_12 c_X11_sure_71 ?_
    exact G_iret C q dX11_sure_14
  · refine G_aload_n C dX11_sure_15 rfl 0 rfl ?_
    refine G_getR C f_X11_sure_13 t77 rfl dX11_sure_16 ?_
    refine G_iconst C dX11_sure_19 (v := 1) (by decide +kernel) ?_
    refine G_aldk C t79 (by decide +kernel) (k := 1) rfl dX11_sure_20 ?_
    refine G_if_ne C dX11_sure_21 (tgt := 27) (by decide) (fun c3 => ?_) (fun c3 => ?_)
    · refine G_ldc C dX11_sure_24 c_X11_sure_151 ?_
      exact G_iret C q dX11_sure_26
    · refine G_aload_n C dX11_sure_27 rfl 0 rfl ?_
      refine G_iload_n C dX11_sure_28 rfl 1 rfl ?_
      refine G_callV (rest := []) (fun a ha => g_runV C (nargs := 1) (As := [.int x1]) (rest := []) gX11_sure_X11_goThrough rfl (by decide +kernel) rfl t77 rfl rfl rfl rfl dX11_sure_29 (k_m_X11_goThrough X.1.2.1 X.2.1 (g_n X) (g_T X) (g_ag_sub hA (by decide +kernel)) N x1 q1.2 a ha)) (fun σ4 => ?_)
      refine G_aload_n C dX11_sure_32 rfl 0 rfl ?_
      refine G_getI C f_X11_sure_227 t77 rfl dX11_sure_33 ?_
      refine G_if_ne C dX11_sure_36 (tgt := 43) (by decide) (fun c5 => ?_) (fun c5 => ?_)
      · refine G_iconst C dX11_sure_39 (v := 0) (by decide +kernel) ?_
        refine G_goto C dX11_sure_40 (tgt := 47) (by decide) ?_
        exact G_iret C q dX11_sure_47
      · refine G_aload_n C dX11_sure_43 rfl 0 rfl ?_
        refine G_getI C f_X11_sure_232 t77 rfl dX11_sure_44 ?_
        exact G_iret C q dX11_sure_47
theorem k_m_X11_sure (l : Launch) (E : g_E) (n : Nat) (T : Nat → g_Sh) (hA : g_ag L_m_X11_sure n T) (N : Nat) (x1 : Int32) (σ : g_St) (a : Int32 × g_St) (h : m_X11_sure N x1 σ = some a) : Met l yX11_sure wsX11_sure rm_m_X11_sure (g_Pc E n T [.ref (E.2.1 + 77), .int x1] σ) (g_Qi E n T a) 0 0 (g_A E) :=
  g_metI (by decide +kernel) rfl rfl (Nat.le_of_ble_eq_true rfl) (fun M Qf C q => by rw [← h]; exact w_m_X11_sure_0 C q hA N x1 σ)
def L_m_X11_write : List Nat := [77, 79, 91]
abbrev rm_m_X11_write : Room := { frames := 2, cells := 0, slots := 0, locals := 46 }
theorem f_X11_write_113 : g_Fld wsX11_write RX11 113 11 21 := ⟨RX11, TX11, 27, rfl, by decide +kernel, by decide, by decide +kernel⟩
theorem f_X11_write_49 : g_Fld wsX11_write RX11 49 11 22 := ⟨RX11, TX11, 27, rfl, by decide +kernel, by decide, by decide +kernel⟩
theorem p_X11_write_113 : g_FldP wsX11_write RX11 113 11 21 .int := ⟨RX11, TX11, 27, tyX11, rfl, by decide +kernel, by decide, by decide +kernel, tyX11_ok, nmX11, rfl, by decide +kernel⟩
theorem c_X11_write_139 : Cond.constant RX11 139 (-1000000001) ∈ wsX11_write := by decide +kernel
theorem c_X11_write_75 : Cond.constant RX11 75 (-1000000004) ∈ wsX11_write := by decide +kernel
set_option maxHeartbeats 4000000 in
set_option maxRecDepth 100000 in
theorem w_m_X11_write_0 {X : g_X (Int32 × g_St)} (C : g_C X cX11_write RX11 wsX11_write rm_m_X11_write 2) (q : g_qI X) (hA : g_ag L_m_X11_write (g_n X) (g_T X)) (x1 : Int32) (σ : g_St) : G X 0 [(0, .ref (g_b X + 77)), (1, .int x1)] [] σ (m_X11_write x1 σ) := by
  have t77 := g_ag_at hA (c := 77) rfl tc77
  have t91 := g_ag_at hA (c := 91) rfl tc91
  unfold m_X11_write
  refine G_aload_n C dX11_write_0 rfl 0 rfl ?_
  refine G_iload_n C dX11_write_1 rfl 1 rfl ?_
  refine G_callI (rest := []) (fun a ha => g_runV C (nargs := 1) (As := [.int x1]) (rest := []) gX11_write_X11_isTicket rfl (by decide +kernel) rfl t77 rfl rfl rfl rfl dX11_write_2 (k_m_X11_isTicket X.1.2.1 X.2.1 (g_n X) (g_T X) (g_ag_sub hA (by decide +kernel)) x1 σ a ha)) (fun q1 => ?_)
  refine G_if_ne C dX11_write_5 (tgt := 11) (by decide) (fun c2 => ?_) (fun c2 => ?_)
  · refine G_ldc C dX11_write_8 c_X11_write_139 ?_
    exact G_iret C q dX11_write_10
  · refine G_aload_n C dX11_write_11 rfl 0 rfl ?_
    refine G_getI C f_X11_write_113 t77 rfl dX11_write_12 ?_
    refine G_bipush C dX11_write_15 (v := 20) (by decide +kernel) ?_
    refine G_icmp_ne C dX11_write_17 (tgt := 23) (by decide) (fun c3 => ?_) (fun c3 => ?_)
    · refine G_ldc C dX11_write_20 c_X11_write_75 ?_
      exact G_iret C q dX11_write_22
    · refine G_aload_n C dX11_write_23 rfl 0 rfl ?_
      refine G_getR C f_X11_write_49 t77 rfl dX11_write_24 ?_
      refine G_aload_n C dX11_write_27 rfl 0 rfl ?_
      refine G_getI C f_X11_write_113 t77 rfl dX11_write_28 ?_
      refine G_iload_n C dX11_write_31 rfl 1 rfl ?_
      refine G_chk (fun h4 => ?_)
      refine G_ast C t91 h4 dX11_write_32 ?_
      refine G_lts (fun σ5 => ?_)
      refine G_aload_n C dX11_write_33 rfl 0 rfl ?_
      refine G_dup C dX11_write_34 rfl ?_
      refine G_getI C f_X11_write_113 t77 rfl dX11_write_35 ?_
      refine G_iconst C dX11_write_38 (v := 1) (by decide +kernel) ?_
      refine G_iadd C dX11_write_39 ?_
      refine G_putI C p_X11_write_113 t77 rfl rfl rfl dX11_write_40 ?_
      refine G_lts (fun σ6 => ?_)
      refine G_aload_n C dX11_write_43 rfl 0 rfl ?_
      refine G_getI C f_X11_write_113 t77 rfl dX11_write_44 ?_
      exact G_iret C q dX11_write_47
theorem k_m_X11_write (l : Launch) (E : g_E) (n : Nat) (T : Nat → g_Sh) (hA : g_ag L_m_X11_write n T) (x1 : Int32) (σ : g_St) (a : Int32 × g_St) (h : m_X11_write x1 σ = some a) : Met l yX11_write wsX11_write rm_m_X11_write (g_Pc E n T [.ref (E.2.1 + 77), .int x1] σ) (g_Qi E n T a) 0 0 (g_A E) :=
  g_metI (by decide +kernel) rfl rfl (Nat.le_of_ble_eq_true rfl) (fun M Qf C q => by rw [← h]; exact w_m_X11_write_0 C q hA x1 σ)
def L_m_X11_reads : List Nat := [77, 79, 81, 91]
abbrev rm_m_X11_reads : Room := { frames := 2, cells := 0, slots := 0, locals := 45 }
theorem f_X11_reads_113 : g_Fld wsX11_reads RX11 113 11 21 := ⟨RX11, TX11, 27, rfl, by decide +kernel, by decide, by decide +kernel⟩
theorem f_X11_reads_13 : g_Fld wsX11_reads RX11 13 11 1 := ⟨RX11, TX11, 27, rfl, by decide +kernel, by decide, by decide +kernel⟩
theorem f_X11_reads_19 : g_Fld wsX11_reads RX11 19 11 7 := ⟨RX11, TX11, 27, rfl, by decide +kernel, by decide, by decide +kernel⟩
theorem f_X11_reads_49 : g_Fld wsX11_reads RX11 49 11 22 := ⟨RX11, TX11, 27, rfl, by decide +kernel, by decide, by decide +kernel⟩
set_option maxHeartbeats 4000000 in
set_option maxRecDepth 100000 in
theorem w_m_X11_reads_2 {X : g_X (Int32 × g_St)} (C : g_C X cX11_reads RX11 wsX11_reads rm_m_X11_reads 2) (q : g_qI X) (hA : g_ag L_m_X11_reads (g_n X) (g_T X)) (N : Nat) : ∀ (fu : Nat) (x1 : Int32) (σ : g_St), G X 2 [(0, .ref (g_b X + 77)), (1, .int x1)] [] σ (m_X11_reads_2 N fu x1 σ) := by
  have t77 := g_ag_at hA (c := 77) rfl tc77
  have t79 := g_ag_at hA (c := 79) rfl tc79
  have t81 := g_ag_at hA (c := 81) rfl tc81
  have t91 := g_ag_at hA (c := 91) rfl tc91
  intro fu
  induction fu with
  | zero => intro x1 σ; exact G_none
  | succ fu ih =>
    intro x1 σ
    unfold m_X11_reads_2
    refine G_iload_n C dX11_reads_2 rfl 1 rfl ?_
    refine G_aload_n C dX11_reads_3 rfl 0 rfl ?_
    refine G_getI C f_X11_reads_113 t77 rfl dX11_reads_4 ?_
    refine G_icmp_ge C dX11_reads_7 (tgt := 52) (by decide) (fun c1 => ?_) (fun c1 => ?_)
    · refine G_iconst C dX11_reads_52 (v := -1) (by decide +kernel) ?_
      exact G_iret C q dX11_reads_53
    · refine G_aload_n C dX11_reads_10 rfl 0 rfl ?_
      refine G_getR C f_X11_reads_19 t77 rfl dX11_reads_11 ?_
      refine G_iconst C dX11_reads_14 (v := 2) (by decide +kernel) ?_
      refine G_aldk C t81 (by decide +kernel) (k := 2) rfl dX11_reads_15 ?_
      refine G_aload_n C dX11_reads_16 rfl 0 rfl ?_
      refine G_getR C f_X11_reads_49 t77 rfl dX11_reads_17 ?_
      refine G_iload_n C dX11_reads_20 rfl 1 rfl ?_
      refine G_chk (fun h2 => ?_)
      refine G_ald C t91 h2 dX11_reads_21 ?_
      refine G_ishr C dX11_reads_22 ?_
      refine G_iconst C dX11_reads_23 (v := 1) (by decide +kernel) ?_
      refine G_iand C dX11_reads_24 ?_
      refine G_if_ne C dX11_reads_25 (tgt := 30) (by decide) (fun c3 => ?_) (fun c3 => ?_)
      · refine G_iload_n C dX11_reads_28 rfl 1 rfl ?_
        exact G_iret C q dX11_reads_29
      · refine G_aload_n C dX11_reads_30 rfl 0 rfl ?_
        refine G_aload_n C dX11_reads_31 rfl 0 rfl ?_
        refine G_getR C f_X11_reads_49 t77 rfl dX11_reads_32 ?_
        refine G_iload_n C dX11_reads_35 rfl 1 rfl ?_
        refine G_chk (fun h4 => ?_)
        refine G_ald C t91 h4 dX11_reads_36 ?_
        refine G_aload_n C dX11_reads_37 rfl 0 rfl ?_
        refine G_getR C f_X11_reads_13 t77 rfl dX11_reads_38 ?_
        refine G_iconst C dX11_reads_41 (v := 3) (by decide +kernel) ?_
        refine G_aldk C t79 (by decide +kernel) (k := 3) rfl dX11_reads_42 ?_
        refine G_callV (rest := []) (fun a ha => g_runV C (nargs := 2) (As := [.int (σ.1 91 x1.toNatClampNeg), .int (σ.1 79 3)]) (rest := []) gX11_reads_X11_draws rfl (by decide +kernel) rfl t77 rfl rfl rfl rfl dX11_reads_43 (k_m_X11_draws X.1.2.1 X.2.1 (g_n X) (g_T X) (g_ag_sub hA (by decide +kernel)) (σ.1 91 x1.toNatClampNeg) (σ.1 79 3) σ a ha)) (fun σ5 => ?_)
        refine G_iinc C dX11_reads_46 1 rfl (v := (x1 + (1 : Int32))) (by rfl) rfl (lv' := [(1, .int (x1 + (1 : Int32))), (0, .ref (g_b X + 77))]) rfl ?_
        refine G_ltv (fun v => [(1, .int v), (0, .ref (g_b X + 77))]) (fun v6 => ?_)
        refine G_goto C dX11_reads_49 (tgt := 2) (by decide) ?_
        exact G_sub (ih v6 σ5) [1, 0] rfl
set_option maxHeartbeats 4000000 in
set_option maxRecDepth 100000 in
theorem w_m_X11_reads_0 {X : g_X (Int32 × g_St)} (C : g_C X cX11_reads RX11 wsX11_reads rm_m_X11_reads 2) (q : g_qI X) (hA : g_ag L_m_X11_reads (g_n X) (g_T X)) (N : Nat) (σ : g_St) : G X 0 [(0, .ref (g_b X + 77))] [] σ (m_X11_reads N σ) := by
  unfold m_X11_reads
  refine G_iconst C dX11_reads_0 (v := 0) (by decide +kernel) ?_
  refine G_istore_n C dX11_reads_1 rfl rfl (lv' := [(1, .int (0 : Int32)), (0, .ref (g_b X + 77))]) rfl ?_
  exact G_sub (w_m_X11_reads_2 C q hA N N (0 : Int32) σ) [1, 0] rfl
theorem k_m_X11_reads (l : Launch) (E : g_E) (n : Nat) (T : Nat → g_Sh) (hA : g_ag L_m_X11_reads n T) (N : Nat) (σ : g_St) (a : Int32 × g_St) (h : m_X11_reads N σ = some a) : Met l yX11_reads wsX11_reads rm_m_X11_reads (g_Pc E n T [.ref (E.2.1 + 77)] σ) (g_Qi E n T a) 0 0 (g_A E) :=
  g_metI (by decide +kernel) rfl rfl (Nat.le_of_ble_eq_true rfl) (fun M Qf C q => by rw [← h]; exact w_m_X11_reads_0 C q hA N σ)
def L_m_X11_judge : List Nat := [77, 79, 81, 86, 91]
abbrev rm_m_X11_judge : Room := { frames := 3, cells := 0, slots := 0, locals := 66 }
set_option maxHeartbeats 4000000 in
set_option maxRecDepth 100000 in
theorem w_m_X11_judge_0 {X : g_X (Int32 × g_St)} (C : g_C X cX11_judge RX11 wsX11_judge rm_m_X11_judge 2) (q : g_qI X) (hA : g_ag L_m_X11_judge (g_n X) (g_T X)) (N : Nat) (σ : g_St) : G X 0 [(0, .ref (g_b X + 77))] [] σ (m_X11_judge N σ) := by
  have t77 := g_ag_at hA (c := 77) rfl tc77
  unfold m_X11_judge
  refine G_aload_n C dX11_judge_0 rfl 0 rfl ?_
  refine G_callV (rest := []) (fun a ha => g_runV C (nargs := 0) (As := []) (rest := []) gX11_judge_X11_asides rfl (by decide +kernel) rfl t77 rfl rfl rfl rfl dX11_judge_1 (k_m_X11_asides X.1.2.1 X.2.1 (g_n X) (g_T X) (g_ag_sub hA (by decide +kernel)) N σ a ha)) (fun σ1 => ?_)
  refine G_aload_n C dX11_judge_4 rfl 0 rfl ?_
  refine G_callI (rest := []) (fun a ha => g_runV C (nargs := 0) (As := []) (rest := []) gX11_judge_X11_reads rfl (by decide +kernel) rfl t77 rfl rfl rfl rfl dX11_judge_5 (k_m_X11_reads X.1.2.1 X.2.1 (g_n X) (g_T X) (g_ag_sub hA (by decide +kernel)) N σ1 a ha)) (fun q2 => ?_)
  refine G_istore_n C dX11_judge_8 rfl rfl (lv' := [(1, .int q2.1), (0, .ref (g_b X + 77))]) rfl ?_
  refine G_aload_n C dX11_judge_9 rfl 1 rfl ?_
  refine G_callV (rest := []) (fun a ha => g_runV C (nargs := 0) (As := []) (rest := []) gX11_judge_X11_backs rfl (by decide +kernel) rfl t77 rfl rfl rfl rfl dX11_judge_10 (k_m_X11_backs X.1.2.1 X.2.1 (g_n X) (g_T X) (g_ag_sub hA (by decide +kernel)) N q2.2 a ha)) (fun σ3 => ?_)
  refine G_iload_n C dX11_judge_13 rfl 0 rfl ?_
  exact G_iret C q dX11_judge_14
theorem k_m_X11_judge (l : Launch) (E : g_E) (n : Nat) (T : Nat → g_Sh) (hA : g_ag L_m_X11_judge n T) (N : Nat) (σ : g_St) (a : Int32 × g_St) (h : m_X11_judge N σ = some a) : Met l yX11_judge wsX11_judge rm_m_X11_judge (g_Pc E n T [.ref (E.2.1 + 77)] σ) (g_Qi E n T a) 0 0 (g_A E) :=
  g_metI (by decide +kernel) rfl rfl (Nat.le_of_ble_eq_true rfl) (fun M Qf C q => by rw [← h]; exact w_m_X11_judge_0 C q hA N σ)
def L_m_X11_ageBy : List Nat := [77, 79, 81, 86, 91]
abbrev rm_m_X11_ageBy : Room := { frames := 3, cells := 0, slots := 0, locals := 66 }
theorem f_X11_ageBy_19 : g_Fld wsX11_ageBy RX11 19 11 7 := ⟨RX11, TX11, 27, rfl, by decide +kernel, by decide, by decide +kernel⟩
theorem c_X11_ageBy_139 : Cond.constant RX11 139 (-1000000001) ∈ wsX11_ageBy := by decide +kernel
set_option maxHeartbeats 4000000 in
set_option maxRecDepth 100000 in
theorem w_m_X11_ageBy_0 {X : g_X (Int32 × g_St)} (C : g_C X cX11_ageBy RX11 wsX11_ageBy rm_m_X11_ageBy 3) (q : g_qI X) (hA : g_ag L_m_X11_ageBy (g_n X) (g_T X)) (N : Nat) (x1 : Int32) (σ : g_St) : G X 0 [(0, .ref (g_b X + 77)), (1, .int x1)] [] σ (m_X11_ageBy N x1 σ) := by
  have t77 := g_ag_at hA (c := 77) rfl tc77
  have t81 := g_ag_at hA (c := 81) rfl tc81
  unfold m_X11_ageBy
  refine G_aload_n C dX11_ageBy_0 rfl 0 rfl ?_
  refine G_iload_n C dX11_ageBy_1 rfl 1 rfl ?_
  refine G_callI (rest := []) (fun a ha => g_runV C (nargs := 1) (As := [.int x1]) (rest := []) gX11_ageBy_X11_isPerson rfl (by decide +kernel) rfl t77 rfl rfl rfl rfl dX11_ageBy_2 (k_m_X11_isPerson X.1.2.1 X.2.1 (g_n X) (g_T X) (g_ag_sub hA (by decide +kernel)) x1 σ a ha)) (fun q1 => ?_)
  refine G_if_ne C dX11_ageBy_5 (tgt := 11) (by decide) (fun c2 => ?_) (fun c2 => ?_)
  · refine G_ldc C dX11_ageBy_8 c_X11_ageBy_139 ?_
    exact G_iret C q dX11_ageBy_10
  · refine G_aload_n C dX11_ageBy_11 rfl 0 rfl ?_
    refine G_callV (rest := []) (fun a ha => g_runV C (nargs := 0) (As := []) (rest := []) gX11_ageBy_X11_asides rfl (by decide +kernel) rfl t77 rfl rfl rfl rfl dX11_ageBy_12 (k_m_X11_asides X.1.2.1 X.2.1 (g_n X) (g_T X) (g_ag_sub hA (by decide +kernel)) N q1.2 a ha)) (fun σ3 => ?_)
    refine G_aload_n C dX11_ageBy_15 rfl 0 rfl ?_
    refine G_callI (rest := []) (fun a ha => g_runV C (nargs := 0) (As := []) (rest := []) gX11_ageBy_X11_reads rfl (by decide +kernel) rfl t77 rfl rfl rfl rfl dX11_ageBy_16 (k_m_X11_reads X.1.2.1 X.2.1 (g_n X) (g_T X) (g_ag_sub hA (by decide +kernel)) N σ3 a ha)) (fun q4 => ?_)
    refine G_pop C dX11_ageBy_19 rfl ?_
    refine G_aload_n C dX11_ageBy_20 rfl 0 rfl ?_
    refine G_getR C f_X11_ageBy_19 t77 rfl dX11_ageBy_21 ?_
    refine G_iconst C dX11_ageBy_24 (v := 3) (by decide +kernel) ?_
    refine G_iconst C dX11_ageBy_25 (v := 2) (by decide +kernel) ?_
    refine G_iload_n C dX11_ageBy_26 rfl 1 rfl ?_
    refine G_imul C dX11_ageBy_27 ?_
    refine G_iadd C dX11_ageBy_28 ?_
    refine G_chk (fun h5 => ?_)
    refine G_ald C t81 h5 dX11_ageBy_29 ?_
    refine G_lti (fun v6 => ?_)
    refine G_istore_n C dX11_ageBy_30 rfl rfl (lv' := [(2, .int v6), (0, .ref (g_b X + 77)), (1, .int x1)]) rfl ?_
    refine G_aload_n C dX11_ageBy_31 rfl 1 rfl ?_
    refine G_callV (rest := []) (fun a ha => g_runV C (nargs := 0) (As := []) (rest := []) gX11_ageBy_X11_backs rfl (by decide +kernel) rfl t77 rfl rfl rfl rfl dX11_ageBy_32 (k_m_X11_backs X.1.2.1 X.2.1 (g_n X) (g_T X) (g_ag_sub hA (by decide +kernel)) N q4.2 a ha)) (fun σ7 => ?_)
    refine G_iload_n C dX11_ageBy_35 rfl 0 rfl ?_
    exact G_iret C q dX11_ageBy_36
theorem k_m_X11_ageBy (l : Launch) (E : g_E) (n : Nat) (T : Nat → g_Sh) (hA : g_ag L_m_X11_ageBy n T) (N : Nat) (x1 : Int32) (σ : g_St) (a : Int32 × g_St) (h : m_X11_ageBy N x1 σ = some a) : Met l yX11_ageBy wsX11_ageBy rm_m_X11_ageBy (g_Pc E n T [.ref (E.2.1 + 77), .int x1] σ) (g_Qi E n T a) 0 0 (g_A E) :=
  g_metI (by decide +kernel) rfl rfl (Nat.le_of_ble_eq_true rfl) (fun M Qf C q => by rw [← h]; exact w_m_X11_ageBy_0 C q hA N x1 σ)
def L_m_X11_tear : List Nat := [77]
abbrev rm_m_X11_tear : Room := { frames := 1, cells := 0, slots := 0, locals := 22 }
theorem f_X11_tear_110 : g_Fld wsX11_tear RX11 110 11 17 := ⟨RX11, TX11, 27, rfl, by decide +kernel, by decide, by decide +kernel⟩
theorem f_X11_tear_113 : g_Fld wsX11_tear RX11 113 11 21 := ⟨RX11, TX11, 27, rfl, by decide +kernel, by decide, by decide +kernel⟩
theorem f_X11_tear_116 : g_Fld wsX11_tear RX11 116 11 19 := ⟨RX11, TX11, 27, rfl, by decide +kernel, by decide, by decide +kernel⟩
theorem p_X11_tear_110 : g_FldP wsX11_tear RX11 110 11 17 .int := ⟨RX11, TX11, 27, tyX11, rfl, by decide +kernel, by decide, by decide +kernel, tyX11_ok, nmX11, rfl, by decide +kernel⟩
theorem p_X11_tear_113 : g_FldP wsX11_tear RX11 113 11 21 .int := ⟨RX11, TX11, 27, tyX11, rfl, by decide +kernel, by decide, by decide +kernel, tyX11_ok, nmX11, rfl, by decide +kernel⟩
theorem p_X11_tear_116 : g_FldP wsX11_tear RX11 116 11 19 .int := ⟨RX11, TX11, 27, tyX11, rfl, by decide +kernel, by decide, by decide +kernel, tyX11_ok, nmX11, rfl, by decide +kernel⟩
set_option maxHeartbeats 4000000 in
set_option maxRecDepth 100000 in
theorem w_m_X11_tear_0 {X : g_X (Int32 × g_St)} (C : g_C X cX11_tear RX11 wsX11_tear rm_m_X11_tear 2) (q : g_qI X) (hA : g_ag L_m_X11_tear (g_n X) (g_T X)) (N : Nat) (σ : g_St) : G X 0 [(0, .ref (g_b X + 77))] [] σ (m_X11_tear N σ) := by
  have t77 := g_ag_at hA (c := 77) rfl tc77
  unfold m_X11_tear
  refine G_aload_n C dX11_tear_0 rfl 0 rfl ?_
  refine G_getI C f_X11_tear_110 t77 rfl dX11_tear_1 ?_
  refine G_aload_n C dX11_tear_4 rfl 0 rfl ?_
  refine G_getI C f_X11_tear_116 t77 rfl dX11_tear_5 ?_
  refine G_callI (rest := [.int (σ.1 77 17)]) (fun a ha => g_runS C (nargs := 1) (As := [.int (σ.1 77 19)]) (rest := [.int (σ.1 77 17)]) gX11_tear_X11_many rfl (by decide +kernel) rfl rfl rfl dX11_tear_8 (k_m_X11_many X.1.2.1 X.2.1 (g_n X) (g_T X) (g_ag_sub hA (by decide +kernel)) N (σ.1 77 19) σ a ha)) (fun q1 => ?_)
  refine G_iadd C dX11_tear_11 ?_
  refine G_aload_n C dX11_tear_12 rfl 0 rfl ?_
  refine G_getI C f_X11_tear_113 t77 rfl dX11_tear_13 ?_
  refine G_iadd C dX11_tear_16 ?_
  refine G_lti (fun v2 => ?_)
  refine G_istore_n C dX11_tear_17 rfl rfl (lv' := [(1, .int v2), (0, .ref (g_b X + 77))]) rfl ?_
  refine G_aload_n C dX11_tear_18 rfl 1 rfl ?_
  refine G_iconst C dX11_tear_19 (v := 0) (by decide +kernel) ?_
  refine G_putI C p_X11_tear_110 t77 rfl rfl rfl dX11_tear_20 ?_
  refine G_lts (fun σ3 => ?_)
  refine G_aload_n C dX11_tear_23 rfl 1 rfl ?_
  refine G_iconst C dX11_tear_24 (v := 0) (by decide +kernel) ?_
  refine G_putI C p_X11_tear_116 t77 rfl rfl rfl dX11_tear_25 ?_
  refine G_lts (fun σ4 => ?_)
  refine G_aload_n C dX11_tear_28 rfl 1 rfl ?_
  refine G_iconst C dX11_tear_29 (v := 0) (by decide +kernel) ?_
  refine G_putI C p_X11_tear_113 t77 rfl rfl rfl dX11_tear_30 ?_
  refine G_lts (fun σ5 => ?_)
  refine G_iload_n C dX11_tear_33 rfl 0 rfl ?_
  exact G_iret C q dX11_tear_34
theorem k_m_X11_tear (l : Launch) (E : g_E) (n : Nat) (T : Nat → g_Sh) (hA : g_ag L_m_X11_tear n T) (N : Nat) (σ : g_St) (a : Int32 × g_St) (h : m_X11_tear N σ = some a) : Met l yX11_tear wsX11_tear rm_m_X11_tear (g_Pc E n T [.ref (E.2.1 + 77)] σ) (g_Qi E n T a) 0 0 (g_A E) :=
  g_metI (by decide +kernel) rfl rfl (Nat.le_of_ble_eq_true rfl) (fun M Qf C q => by rw [← h]; exact w_m_X11_tear_0 C q hA N σ)
def L_m_X11_seed : List Nat := [77]
abbrev rm_m_X11_seed : Room := { frames := 0, cells := 0, slots := 0, locals := 0 }
theorem f_X11_seed_159 : g_Fld wsX11_seed RX11 159 11 8 := ⟨RX11, TX11, 27, rfl, by decide +kernel, by decide, by decide +kernel⟩
theorem p_X11_seed_159 : g_FldP wsX11_seed RX11 159 11 8 .int := ⟨RX11, TX11, 27, tyX11, rfl, by decide +kernel, by decide, by decide +kernel, tyX11_ok, nmX11, rfl, by decide +kernel⟩
theorem c_X11_seed_71 : Cond.constant RX11 71 (-1000000002) ∈ wsX11_seed := by decide +kernel
set_option maxHeartbeats 4000000 in
set_option maxRecDepth 100000 in
theorem w_m_X11_seed_0 {X : g_X (Int32 × g_St)} (C : g_C X cX11_seed RX11 wsX11_seed rm_m_X11_seed 3) (q : g_qI X) (hA : g_ag L_m_X11_seed (g_n X) (g_T X)) (x1 : Int32) (σ : g_St) : G X 0 [(0, .ref (g_b X + 77)), (1, .int x1)] [] σ (m_X11_seed x1 σ) := by
  have t77 := g_ag_at hA (c := 77) rfl tc77
  unfold m_X11_seed
  refine G_iload_n C dX11_seed_0 rfl 1 rfl ?_
  refine G_if_ge C dX11_seed_1 (tgt := 7) (by decide) (fun c1 => ?_) (fun c1 => ?_)
  · refine G_aload_n C dX11_seed_7 rfl 0 rfl ?_
    refine G_getI C f_X11_seed_159 t77 rfl dX11_seed_8 ?_
    refine G_lti (fun v2 => ?_)
    refine G_istore_n C dX11_seed_11 rfl rfl (lv' := [(2, .int v2), (0, .ref (g_b X + 77)), (1, .int x1)]) rfl ?_
    refine G_aload_n C dX11_seed_12 rfl 1 rfl ?_
    refine G_iload_n C dX11_seed_13 rfl 2 rfl ?_
    refine G_putI C p_X11_seed_159 t77 rfl rfl rfl dX11_seed_14 ?_
    refine G_lts (fun σ3 => ?_)
    refine G_iload_n C dX11_seed_17 rfl 0 rfl ?_
    exact G_iret C q dX11_seed_18
  · refine G_ldc C dX11_seed_4 c_X11_seed_71 ?_
    exact G_iret C q dX11_seed_6
theorem k_m_X11_seed (l : Launch) (E : g_E) (n : Nat) (T : Nat → g_Sh) (hA : g_ag L_m_X11_seed n T) (x1 : Int32) (σ : g_St) (a : Int32 × g_St) (h : m_X11_seed x1 σ = some a) : Met l yX11_seed wsX11_seed rm_m_X11_seed (g_Pc E n T [.ref (E.2.1 + 77), .int x1] σ) (g_Qi E n T a) 0 0 (g_A E) :=
  g_metI (by decide +kernel) rfl rfl (Nat.le_of_ble_eq_true rfl) (fun M Qf C q => by rw [← h]; exact w_m_X11_seed_0 C q hA x1 σ)
def L_m_X11_keep : List Nat := [77, 81, 92]
abbrev rm_m_X11_keep : Room := { frames := 1, cells := 0, slots := 0, locals := 25 }
theorem f_X11_keep_159 : g_Fld wsX11_keep RX11 159 11 8 := ⟨RX11, TX11, 27, rfl, by decide +kernel, by decide, by decide +kernel⟩
theorem f_X11_keep_19 : g_Fld wsX11_keep RX11 19 11 7 := ⟨RX11, TX11, 27, rfl, by decide +kernel, by decide, by decide +kernel⟩
theorem f_X11_keep_52 : g_Fld wsX11_keep RX11 52 11 26 := ⟨RX11, TX11, 27, rfl, by decide +kernel, by decide, by decide +kernel⟩
theorem p_X11_keep_119 : g_FldP wsX11_keep RX11 119 11 9 .int := ⟨RX11, TX11, 27, tyX11, rfl, by decide +kernel, by decide, by decide +kernel, tyX11_ok, nmX11, rfl, by decide +kernel⟩
theorem c_X11_keep_139 : Cond.constant RX11 139 (-1000000001) ∈ wsX11_keep := by decide +kernel
set_option maxHeartbeats 4000000 in
set_option maxRecDepth 100000 in
theorem w_m_X11_keep_40 {X : g_X (Int32 × g_St)} (C : g_C X cX11_keep RX11 wsX11_keep rm_m_X11_keep 3) (q : g_qI X) (hA : g_ag L_m_X11_keep (g_n X) (g_T X)) (N : Nat) : ∀ (fu : Nat) (x1 : Int32) (x2 : Int32) (σ : g_St), G X 40 [(0, .ref (g_b X + 77)), (1, .int x1), (2, .int x2)] [] σ (m_X11_keep_40 N fu x1 x2 σ) := by
  have t77 := g_ag_at hA (c := 77) rfl tc77
  have t81 := g_ag_at hA (c := 81) rfl tc81
  have t92 := g_ag_at hA (c := 92) rfl tc92
  intro fu
  induction fu with
  | zero => intro x1 x2 σ; exact G_none
  | succ fu ih =>
    intro x1 x2 σ
    unfold m_X11_keep_40
    refine G_iload_n C dX11_keep_40 rfl 2 rfl ?_
    refine G_bipush C dX11_keep_41 (v := 39) (by decide +kernel) ?_
    refine G_icmp_ge C dX11_keep_43 (tgt := 71) (by decide) (fun c1 => ?_) (fun c1 => ?_)
    · refine G_aload_n C dX11_keep_71 rfl 0 rfl ?_
      refine G_iconst C dX11_keep_72 (v := 0) (by decide +kernel) ?_
      refine G_putI C p_X11_keep_119 t77 rfl rfl rfl dX11_keep_73 ?_
      refine G_lts (fun σ2 => ?_)
      refine G_iconst C dX11_keep_76 (v := 1) (by decide +kernel) ?_
      exact G_iret C q dX11_keep_77
    · refine G_aload_n C dX11_keep_46 rfl 0 rfl ?_
      refine G_getR C f_X11_keep_52 t77 rfl dX11_keep_47 ?_
      refine G_bipush C dX11_keep_50 (v := 41) (by decide +kernel) ?_
      refine G_iload_n C dX11_keep_52 rfl 1 rfl ?_
      refine G_imul C dX11_keep_53 ?_
      refine G_iconst C dX11_keep_54 (v := 2) (by decide +kernel) ?_
      refine G_iadd C dX11_keep_55 ?_
      refine G_iload_n C dX11_keep_56 rfl 2 rfl ?_
      refine G_iadd C dX11_keep_57 ?_
      refine G_aload_n C dX11_keep_58 rfl 0 rfl ?_
      refine G_getR C f_X11_keep_19 t77 rfl dX11_keep_59 ?_
      refine G_iload_n C dX11_keep_62 rfl 2 rfl ?_
      refine G_chk (fun h3 => ?_)
      refine G_ald C t81 h3 dX11_keep_63 ?_
      refine G_chk (fun h4 => ?_)
      refine G_ast C t92 h4 dX11_keep_64 ?_
      refine G_lts (fun σ5 => ?_)
      refine G_iinc C dX11_keep_65 2 rfl (v := (x2 + (1 : Int32))) (by rfl) rfl (lv' := [(2, .int (x2 + (1 : Int32))), (0, .ref (g_b X + 77)), (1, .int x1)]) rfl ?_
      refine G_ltv (fun v => [(2, .int v), (0, .ref (g_b X + 77)), (1, .int x1)]) (fun v6 => ?_)
      refine G_goto C dX11_keep_68 (tgt := 40) (by decide) ?_
      exact G_sub (ih x1 v6 σ5) [1, 2, 0] rfl
set_option maxHeartbeats 4000000 in
set_option maxRecDepth 100000 in
theorem w_m_X11_keep_0 {X : g_X (Int32 × g_St)} (C : g_C X cX11_keep RX11 wsX11_keep rm_m_X11_keep 3) (q : g_qI X) (hA : g_ag L_m_X11_keep (g_n X) (g_T X)) (N : Nat) (x1 : Int32) (σ : g_St) : G X 0 [(0, .ref (g_b X + 77)), (1, .int x1)] [] σ (m_X11_keep N x1 σ) := by
  have t77 := g_ag_at hA (c := 77) rfl tc77
  have t92 := g_ag_at hA (c := 92) rfl tc92
  unfold m_X11_keep
  refine G_iload_n C dX11_keep_0 rfl 1 rfl ?_
  refine G_i2l C dX11_keep_1 ?_
  refine G_lconst C dX11_keep_2 (v := 0) (by decide +kernel) ?_
  refine G_lconst C dX11_keep_3 (v := 1) (by decide +kernel) ?_
  refine G_callI (rest := []) (fun a ha => g_runS C (nargs := 3) (As := [.long (x1).toInt64, .long (0 : Int64), .long (1 : Int64)]) (rest := []) gX11_keep_X11_in rfl (by decide +kernel) rfl rfl rfl dX11_keep_4 (k_m_X11_in X.1.2.1 X.2.1 (g_n X) (g_T X) (g_ag_sub hA (by decide +kernel)) (x1).toInt64 (0 : Int64) (1 : Int64) σ a ha)) (fun q1 => ?_)
  refine G_if_ne C dX11_keep_7 (tgt := 13) (by decide) (fun c2 => ?_) (fun c2 => ?_)
  · refine G_ldc C dX11_keep_10 c_X11_keep_139 ?_
    exact G_iret C q dX11_keep_12
  · refine G_aload_n C dX11_keep_13 rfl 0 rfl ?_
    refine G_getR C f_X11_keep_52 t77 rfl dX11_keep_14 ?_
    refine G_bipush C dX11_keep_17 (v := 41) (by decide +kernel) ?_
    refine G_iload_n C dX11_keep_19 rfl 1 rfl ?_
    refine G_imul C dX11_keep_20 ?_
    refine G_iconst C dX11_keep_21 (v := 1) (by decide +kernel) ?_
    refine G_chk (fun h3 => ?_)
    refine G_ast C t92 h3 dX11_keep_22 ?_
    refine G_lts (fun σ4 => ?_)
    refine G_aload_n C dX11_keep_23 rfl 0 rfl ?_
    refine G_getR C f_X11_keep_52 t77 rfl dX11_keep_24 ?_
    refine G_bipush C dX11_keep_27 (v := 41) (by decide +kernel) ?_
    refine G_iload_n C dX11_keep_29 rfl 1 rfl ?_
    refine G_imul C dX11_keep_30 ?_
    refine G_iconst C dX11_keep_31 (v := 1) (by decide +kernel) ?_
    refine G_iadd C dX11_keep_32 ?_
    refine G_aload_n C dX11_keep_33 rfl 0 rfl ?_
    refine G_getI C f_X11_keep_159 t77 rfl dX11_keep_34 ?_
    refine G_chk (fun h5 => ?_)
    refine G_ast C t92 h5 dX11_keep_37 ?_
    refine G_lts (fun σ6 => ?_)
    refine G_iconst C dX11_keep_38 (v := 0) (by decide +kernel) ?_
    refine G_istore_n C dX11_keep_39 rfl rfl (lv' := [(2, .int (0 : Int32)), (0, .ref (g_b X + 77)), (1, .int x1)]) rfl ?_
    exact G_sub (w_m_X11_keep_40 C q hA N N x1 (0 : Int32) σ6) [1, 2, 0] rfl
theorem k_m_X11_keep (l : Launch) (E : g_E) (n : Nat) (T : Nat → g_Sh) (hA : g_ag L_m_X11_keep n T) (N : Nat) (x1 : Int32) (σ : g_St) (a : Int32 × g_St) (h : m_X11_keep N x1 σ = some a) : Met l yX11_keep wsX11_keep rm_m_X11_keep (g_Pc E n T [.ref (E.2.1 + 77), .int x1] σ) (g_Qi E n T a) 0 0 (g_A E) :=
  g_metI (by decide +kernel) rfl rfl (Nat.le_of_ble_eq_true rfl) (fun M Qf C q => by rw [← h]; exact w_m_X11_keep_0 C q hA N x1 σ)
def L_m_X11_goBack : List Nat := [77, 81, 92]
abbrev rm_m_X11_goBack : Room := { frames := 1, cells := 0, slots := 0, locals := 25 }
theorem f_X11_goBack_19 : g_Fld wsX11_goBack RX11 19 11 7 := ⟨RX11, TX11, 27, rfl, by decide +kernel, by decide, by decide +kernel⟩
theorem f_X11_goBack_52 : g_Fld wsX11_goBack RX11 52 11 26 := ⟨RX11, TX11, 27, rfl, by decide +kernel, by decide, by decide +kernel⟩
theorem p_X11_goBack_119 : g_FldP wsX11_goBack RX11 119 11 9 .int := ⟨RX11, TX11, 27, tyX11, rfl, by decide +kernel, by decide, by decide +kernel, tyX11_ok, nmX11, rfl, by decide +kernel⟩
theorem p_X11_goBack_159 : g_FldP wsX11_goBack RX11 159 11 8 .int := ⟨RX11, TX11, 27, tyX11, rfl, by decide +kernel, by decide, by decide +kernel, tyX11_ok, nmX11, rfl, by decide +kernel⟩
theorem c_X11_goBack_139 : Cond.constant RX11 139 (-1000000001) ∈ wsX11_goBack := by decide +kernel
theorem c_X11_goBack_151 : Cond.constant RX11 151 (-1000000003) ∈ wsX11_goBack := by decide +kernel
set_option maxHeartbeats 4000000 in
set_option maxRecDepth 100000 in
theorem w_m_X11_goBack_45 {X : g_X (Int32 × g_St)} (C : g_C X cX11_goBack RX11 wsX11_goBack rm_m_X11_goBack 3) (q : g_qI X) (hA : g_ag L_m_X11_goBack (g_n X) (g_T X)) (N : Nat) : ∀ (fu : Nat) (x1 : Int32) (x2 : Int32) (σ : g_St), G X 45 [(0, .ref (g_b X + 77)), (1, .int x1), (2, .int x2)] [] σ (m_X11_goBack_45 N fu x1 x2 σ) := by
  have t77 := g_ag_at hA (c := 77) rfl tc77
  have t81 := g_ag_at hA (c := 81) rfl tc81
  have t92 := g_ag_at hA (c := 92) rfl tc92
  intro fu
  induction fu with
  | zero => intro x1 x2 σ; exact G_none
  | succ fu ih =>
    intro x1 x2 σ
    unfold m_X11_goBack_45
    refine G_iload_n C dX11_goBack_45 rfl 2 rfl ?_
    refine G_bipush C dX11_goBack_46 (v := 39) (by decide +kernel) ?_
    refine G_icmp_ge C dX11_goBack_48 (tgt := 76) (by decide) (fun c1 => ?_) (fun c1 => ?_)
    · refine G_aload_n C dX11_goBack_76 rfl 0 rfl ?_
      refine G_iconst C dX11_goBack_77 (v := 0) (by decide +kernel) ?_
      refine G_putI C p_X11_goBack_119 t77 rfl rfl rfl dX11_goBack_78 ?_
      refine G_lts (fun σ2 => ?_)
      refine G_iconst C dX11_goBack_81 (v := 1) (by decide +kernel) ?_
      exact G_iret C q dX11_goBack_82
    · refine G_aload_n C dX11_goBack_51 rfl 0 rfl ?_
      refine G_getR C f_X11_goBack_19 t77 rfl dX11_goBack_52 ?_
      refine G_iload_n C dX11_goBack_55 rfl 2 rfl ?_
      refine G_aload_n C dX11_goBack_56 rfl 0 rfl ?_
      refine G_getR C f_X11_goBack_52 t77 rfl dX11_goBack_57 ?_
      refine G_bipush C dX11_goBack_60 (v := 41) (by decide +kernel) ?_
      refine G_iload_n C dX11_goBack_62 rfl 1 rfl ?_
      refine G_imul C dX11_goBack_63 ?_
      refine G_iconst C dX11_goBack_64 (v := 2) (by decide +kernel) ?_
      refine G_iadd C dX11_goBack_65 ?_
      refine G_iload_n C dX11_goBack_66 rfl 2 rfl ?_
      refine G_iadd C dX11_goBack_67 ?_
      refine G_chk (fun h3 => ?_)
      refine G_ald C t92 h3 dX11_goBack_68 ?_
      refine G_chk (fun h4 => ?_)
      refine G_ast C t81 h4 dX11_goBack_69 ?_
      refine G_lts (fun σ5 => ?_)
      refine G_iinc C dX11_goBack_70 2 rfl (v := (x2 + (1 : Int32))) (by rfl) rfl (lv' := [(2, .int (x2 + (1 : Int32))), (0, .ref (g_b X + 77)), (1, .int x1)]) rfl ?_
      refine G_ltv (fun v => [(2, .int v), (0, .ref (g_b X + 77)), (1, .int x1)]) (fun v6 => ?_)
      refine G_goto C dX11_goBack_73 (tgt := 45) (by decide) ?_
      exact G_sub (ih x1 v6 σ5) [1, 2, 0] rfl
set_option maxHeartbeats 4000000 in
set_option maxRecDepth 100000 in
theorem w_m_X11_goBack_0 {X : g_X (Int32 × g_St)} (C : g_C X cX11_goBack RX11 wsX11_goBack rm_m_X11_goBack 3) (q : g_qI X) (hA : g_ag L_m_X11_goBack (g_n X) (g_T X)) (N : Nat) (x1 : Int32) (σ : g_St) : G X 0 [(0, .ref (g_b X + 77)), (1, .int x1)] [] σ (m_X11_goBack N x1 σ) := by
  have t77 := g_ag_at hA (c := 77) rfl tc77
  have t92 := g_ag_at hA (c := 92) rfl tc92
  unfold m_X11_goBack
  refine G_iload_n C dX11_goBack_0 rfl 1 rfl ?_
  refine G_i2l C dX11_goBack_1 ?_
  refine G_lconst C dX11_goBack_2 (v := 0) (by decide +kernel) ?_
  refine G_lconst C dX11_goBack_3 (v := 1) (by decide +kernel) ?_
  refine G_callI (rest := []) (fun a ha => g_runS C (nargs := 3) (As := [.long (x1).toInt64, .long (0 : Int64), .long (1 : Int64)]) (rest := []) gX11_goBack_X11_in rfl (by decide +kernel) rfl rfl rfl dX11_goBack_4 (k_m_X11_in X.1.2.1 X.2.1 (g_n X) (g_T X) (g_ag_sub hA (by decide +kernel)) (x1).toInt64 (0 : Int64) (1 : Int64) σ a ha)) (fun q1 => ?_)
  refine G_if_ne C dX11_goBack_7 (tgt := 13) (by decide) (fun c2 => ?_) (fun c2 => ?_)
  · refine G_ldc C dX11_goBack_10 c_X11_goBack_139 ?_
    exact G_iret C q dX11_goBack_12
  · refine G_aload_n C dX11_goBack_13 rfl 0 rfl ?_
    refine G_getR C f_X11_goBack_52 t77 rfl dX11_goBack_14 ?_
    refine G_bipush C dX11_goBack_17 (v := 41) (by decide +kernel) ?_
    refine G_iload_n C dX11_goBack_19 rfl 1 rfl ?_
    refine G_imul C dX11_goBack_20 ?_
    refine G_chk (fun h3 => ?_)
    refine G_ald C t92 h3 dX11_goBack_21 ?_
    refine G_if_ne C dX11_goBack_22 (tgt := 28) (by decide) (fun c4 => ?_) (fun c4 => ?_)
    · refine G_ldc C dX11_goBack_25 c_X11_goBack_151 ?_
      exact G_iret C q dX11_goBack_27
    · refine G_aload_n C dX11_goBack_28 rfl 0 rfl ?_
      refine G_aload_n C dX11_goBack_29 rfl 0 rfl ?_
      refine G_getR C f_X11_goBack_52 t77 rfl dX11_goBack_30 ?_
      refine G_bipush C dX11_goBack_33 (v := 41) (by decide +kernel) ?_
      refine G_iload_n C dX11_goBack_35 rfl 1 rfl ?_
      refine G_imul C dX11_goBack_36 ?_
      refine G_iconst C dX11_goBack_37 (v := 1) (by decide +kernel) ?_
      refine G_iadd C dX11_goBack_38 ?_
      refine G_chk (fun h5 => ?_)
      refine G_ald C t92 h5 dX11_goBack_39 ?_
      refine G_putI C p_X11_goBack_159 t77 rfl rfl rfl dX11_goBack_40 ?_
      refine G_lts (fun σ6 => ?_)
      refine G_iconst C dX11_goBack_43 (v := 0) (by decide +kernel) ?_
      refine G_istore_n C dX11_goBack_44 rfl rfl (lv' := [(2, .int (0 : Int32)), (0, .ref (g_b X + 77)), (1, .int x1)]) rfl ?_
      exact G_sub (w_m_X11_goBack_45 C q hA N N x1 (0 : Int32) σ6) [1, 2, 0] rfl
theorem k_m_X11_goBack (l : Launch) (E : g_E) (n : Nat) (T : Nat → g_Sh) (hA : g_ag L_m_X11_goBack n T) (N : Nat) (x1 : Int32) (σ : g_St) (a : Int32 × g_St) (h : m_X11_goBack N x1 σ = some a) : Met l yX11_goBack wsX11_goBack rm_m_X11_goBack (g_Pc E n T [.ref (E.2.1 + 77), .int x1] σ) (g_Qi E n T a) 0 0 (g_A E) :=
  g_metI (by decide +kernel) rfl rfl (Nat.le_of_ble_eq_true rfl) (fun M Qf C q => by rw [← h]; exact w_m_X11_goBack_0 C q hA N x1 σ)
