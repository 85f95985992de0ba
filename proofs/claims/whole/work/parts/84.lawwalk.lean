def L_law : List Nat := List.range 93
set_option maxHeartbeats 4000000 in
set_option maxRecDepth 100000 in
theorem w_m_law_975 {X : g_X Unit} {b L : Nat} {xs : Nat → Int32} (C : g_C X code RL lw_tbl room_1 4) (q : g_qLaw X b) (hA : g_ag L_law (g_n X) (g_T X)) (S : g_Scr X b L xs) (k18 : Int32 → g_St → Option Unit) (hk18 : ∀ (x3 : Int32) (σ : g_St), G X 18 [(0, .ref b), (1, .ref (g_b X + 0)), (2, .ref (g_b X + 77)), (3, .int x3)] [] σ (k18 x3 σ)) (N : Nat) (x3 : Int32) (σ : g_St) : G X 975 [(0, .ref b), (1, .ref (g_b X + 0)), (2, .ref (g_b X + 77)), (3, .int x3)] [] σ (m_law_975 xs L k18 N x3 σ) := by
  unfold m_law_975
  refine G_iinc C dL_law_975 3 rfl (v := (x3 + (5 : Int32))) (by rfl) rfl (lv' := [(3, .int (x3 + (5 : Int32))), (0, .ref b), (1, .ref (g_b X + 0)), (2, .ref (g_b X + 77))]) rfl ?_
  refine G_ltv (fun v => [(3, .int v), (0, .ref b), (1, .ref (g_b X + 0)), (2, .ref (g_b X + 77))]) (fun v1 => ?_)
  refine G_goto C dL_law_978 (tgt := 18) (by decide) ?_
  exact G_sub (hk18 v1 σ) [1, 2, 3, 0] rfl
set_option maxHeartbeats 4000000 in
set_option maxRecDepth 100000 in
theorem w_m_law_18 {X : g_X Unit} {b L : Nat} {xs : Nat → Int32} (C : g_C X code RL lw_tbl room_1 4) (q : g_qLaw X b) (hA : g_ag L_law (g_n X) (g_T X)) (S : g_Scr X b L xs) (N : Nat) : ∀ (fu : Nat) (x3 : Int32) (σ : g_St), G X 18 [(0, .ref b), (1, .ref (g_b X + 0)), (2, .ref (g_b X + 77)), (3, .int x3)] [] σ (m_law_18 xs L N fu x3 σ) := by
  have t0 := g_ag_at hA (c := 0) rfl tc0
  have t77 := g_ag_at hA (c := 77) rfl tc77
  intro fu
  induction fu with
  | zero => intro x3 σ; exact G_none
  | succ fu ih =>
    intro x3 σ
    unfold m_law_18
    refine G_iload_n C dL_law_18 rfl 3 rfl ?_
    refine G_aload_n C dL_law_19 rfl 0 rfl ?_
    refine G_slen C S dL_law_20 ?_
    refine G_iconst C dL_law_21 (v := 5) (by decide +kernel) ?_
    refine G_isub C dL_law_22 ?_
    refine G_icmp_gt C dL_law_23 (tgt := 981) (by decide) (fun c1 => ?_) (fun c1 => ?_)
    · refine G_iconst C dL_law_981 (v := 1) (by decide +kernel) ?_
      exact G_lawret C q dL_law_982
    · refine G_aload_n C dL_law_26 rfl 0 rfl ?_
      refine G_iload_n C dL_law_27 rfl 3 rfl ?_
      refine G_chk (fun h2 => ?_)
      refine G_sld C S h2 dL_law_28 ?_
      refine G_bipush C dL_law_29 (v := 31) (by decide +kernel) ?_
      refine G_iand C dL_law_31 ?_
      refine G_lti (fun v3 => ?_)
      refine G_ite (fun e4 => ?_) (fun e4 => ?_)
      · refine G_tsIn C dL_law_32 e4 (off := 140) (tgt := 172) (by decide +kernel) ?_
        refine G_aload_n C dL_law_172 rfl 1 rfl ?_
        refine G_aload_n C dL_law_173 rfl 0 rfl ?_
        refine G_iload_n C dL_law_174 rfl 3 rfl ?_
        refine G_iconst C dL_law_175 (v := 1) (by decide +kernel) ?_
        refine G_iadd C dL_law_176 ?_
        refine G_chk (fun h5 => ?_)
        refine G_sld C S h5 dL_law_177 ?_
        refine G_callI (rest := []) (fun a ha => g_runV C (nargs := 1) (As := [.int (xs (x3 + (1 : Int32)).toNatClampNeg)]) (rest := []) gl_X10_feed rfl (by decide +kernel) rfl t0 rfl rfl rfl rfl dL_law_178 (k_m_X10_feed X.1.2.1 X.2.1 (g_n X) (g_T X) (g_ag_sub hA (by decide +kernel)) (xs (x3 + (1 : Int32)).toNatClampNeg) σ a ha)) (fun q6 => ?_)
        refine G_aload_n C dL_law_181 rfl 2 rfl ?_
        refine G_aload_n C dL_law_182 rfl 0 rfl ?_
        refine G_iload_n C dL_law_183 rfl 3 rfl ?_
        refine G_iconst C dL_law_184 (v := 1) (by decide +kernel) ?_
        refine G_iadd C dL_law_185 ?_
        refine G_chk (fun h7 => ?_)
        refine G_sld C S h7 dL_law_186 ?_
        refine G_callI (rest := [.int q6.1]) (fun a ha => g_runV C (nargs := 1) (As := [.int (xs (x3 + (1 : Int32)).toNatClampNeg)]) (rest := [.int q6.1]) gl_X11_feed rfl (by decide +kernel) rfl t77 rfl rfl rfl rfl dL_law_187 (k_m_X11_feed X.1.2.1 X.2.1 (g_n X) (g_T X) (g_ag_sub hA (by decide +kernel)) (xs (x3 + (1 : Int32)).toNatClampNeg) q6.2 a ha)) (fun q8 => ?_)
        refine G_icmp_eq C dL_law_190 (tgt := 975) (by decide) (fun c9 => ?_) (fun c9 => ?_)
        · exact w_m_law_975 C q hA S (m_law_18 xs L N fu) ih N x3 q8.2
        · refine G_iconst C dL_law_193 (v := 0) (by decide +kernel) ?_
          exact G_none
      · refine G_ite (fun e10 => ?_) (fun e10 => ?_)
        · refine G_tsIn C dL_law_32 e10 (off := 163) (tgt := 195) (by decide +kernel) ?_
          refine G_aload_n C dL_law_195 rfl 1 rfl ?_
          refine G_callI (rest := []) (fun a ha => g_runV C (nargs := 0) (As := []) (rest := []) gl_X10_town rfl (by decide +kernel) rfl t0 rfl rfl rfl rfl dL_law_196 (k_m_X10_town X.1.2.1 X.2.1 (g_n X) (g_T X) (g_ag_sub hA (by decide +kernel)) N σ a ha)) (fun q11 => ?_)
          refine G_aload_n C dL_law_199 rfl 2 rfl ?_
          refine G_callI (rest := [.int q11.1]) (fun a ha => g_runV C (nargs := 0) (As := []) (rest := [.int q11.1]) gl_X11_town rfl (by decide +kernel) rfl t77 rfl rfl rfl rfl dL_law_200 (k_m_X11_town X.1.2.1 X.2.1 (g_n X) (g_T X) (g_ag_sub hA (by decide +kernel)) N q11.2 a ha)) (fun q12 => ?_)
          refine G_icmp_eq C dL_law_203 (tgt := 975) (by decide) (fun c13 => ?_) (fun c13 => ?_)
          · exact w_m_law_975 C q hA S (m_law_18 xs L N fu) ih N x3 q12.2
          · refine G_iconst C dL_law_206 (v := 0) (by decide +kernel) ?_
            exact G_none
        · refine G_ite (fun e14 => ?_) (fun e14 => ?_)
          · refine G_tsIn C dL_law_32 e14 (off := 176) (tgt := 208) (by decide +kernel) ?_
            refine G_aload_n C dL_law_208 rfl 1 rfl ?_
            refine G_callI (rest := []) (fun a ha => g_runV C (nargs := 0) (As := []) (rest := []) gl_X10_fault rfl (by decide +kernel) rfl t0 rfl rfl rfl rfl dL_law_209 (k_m_X10_fault X.1.2.1 X.2.1 (g_n X) (g_T X) (g_ag_sub hA (by decide +kernel)) σ a ha)) (fun q15 => ?_)
            refine G_aload_n C dL_law_212 rfl 2 rfl ?_
            refine G_callI (rest := [.int q15.1]) (fun a ha => g_runV C (nargs := 0) (As := []) (rest := [.int q15.1]) gl_X11_fault rfl (by decide +kernel) rfl t77 rfl rfl rfl rfl dL_law_213 (k_m_X11_fault X.1.2.1 X.2.1 (g_n X) (g_T X) (g_ag_sub hA (by decide +kernel)) q15.2 a ha)) (fun q16 => ?_)
            refine G_icmp_eq C dL_law_216 (tgt := 975) (by decide) (fun c17 => ?_) (fun c17 => ?_)
            · exact w_m_law_975 C q hA S (m_law_18 xs L N fu) ih N x3 q16.2
            · refine G_iconst C dL_law_219 (v := 0) (by decide +kernel) ?_
              exact G_none
          · refine G_ite (fun e18 => ?_) (fun e18 => ?_)
            · refine G_tsIn C dL_law_32 e18 (off := 189) (tgt := 221) (by decide +kernel) ?_
              refine G_aload_n C dL_law_221 rfl 1 rfl ?_
              refine G_aload_n C dL_law_222 rfl 0 rfl ?_
              refine G_iload_n C dL_law_223 rfl 3 rfl ?_
              refine G_iconst C dL_law_224 (v := 1) (by decide +kernel) ?_
              refine G_iadd C dL_law_225 ?_
              refine G_chk (fun h19 => ?_)
              refine G_sld C S h19 dL_law_226 ?_
              refine G_callI (rest := []) (fun a ha => g_runV C (nargs := 1) (As := [.int (xs (x3 + (1 : Int32)).toNatClampNeg)]) (rest := []) gl_X10_told rfl (by decide +kernel) rfl t0 rfl rfl rfl rfl dL_law_227 (k_m_X10_told X.1.2.1 X.2.1 (g_n X) (g_T X) (g_ag_sub hA (by decide +kernel)) N (xs (x3 + (1 : Int32)).toNatClampNeg) σ a ha)) (fun q20 => ?_)
              refine G_aload_n C dL_law_230 rfl 2 rfl ?_
              refine G_aload_n C dL_law_231 rfl 0 rfl ?_
              refine G_iload_n C dL_law_232 rfl 3 rfl ?_
              refine G_iconst C dL_law_233 (v := 1) (by decide +kernel) ?_
              refine G_iadd C dL_law_234 ?_
              refine G_chk (fun h21 => ?_)
              refine G_sld C S h21 dL_law_235 ?_
              refine G_callI (rest := [.int q20.1]) (fun a ha => g_runV C (nargs := 1) (As := [.int (xs (x3 + (1 : Int32)).toNatClampNeg)]) (rest := [.int q20.1]) gl_X11_told rfl (by decide +kernel) rfl t77 rfl rfl rfl rfl dL_law_236 (k_m_X11_told X.1.2.1 X.2.1 (g_n X) (g_T X) (g_ag_sub hA (by decide +kernel)) N (xs (x3 + (1 : Int32)).toNatClampNeg) q20.2 a ha)) (fun q22 => ?_)
              refine G_icmp_eq C dL_law_239 (tgt := 975) (by decide) (fun c23 => ?_) (fun c23 => ?_)
              · exact w_m_law_975 C q hA S (m_law_18 xs L N fu) ih N x3 q22.2
              · refine G_iconst C dL_law_242 (v := 0) (by decide +kernel) ?_
                exact G_none
            · refine G_ite (fun e24 => ?_) (fun e24 => ?_)
              · refine G_tsIn C dL_law_32 e24 (off := 212) (tgt := 244) (by decide +kernel) ?_
                refine G_aload_n C dL_law_244 rfl 1 rfl ?_
                refine G_aload_n C dL_law_245 rfl 0 rfl ?_
                refine G_iload_n C dL_law_246 rfl 3 rfl ?_
                refine G_iconst C dL_law_247 (v := 1) (by decide +kernel) ?_
                refine G_iadd C dL_law_248 ?_
                refine G_chk (fun h25 => ?_)
                refine G_sld C S h25 dL_law_249 ?_
                refine G_aload_n C dL_law_250 rfl 0 rfl ?_
                refine G_iload_n C dL_law_251 rfl 3 rfl ?_
                refine G_iconst C dL_law_252 (v := 2) (by decide +kernel) ?_
                refine G_iadd C dL_law_253 ?_
                refine G_chk (fun h26 => ?_)
                refine G_sld C S h26 dL_law_254 ?_
                refine G_callI (rest := []) (fun a ha => g_runV C (nargs := 2) (As := [.int (xs (x3 + (1 : Int32)).toNatClampNeg), .int (xs (x3 + (2 : Int32)).toNatClampNeg)]) (rest := []) gl_X10_person rfl (by decide +kernel) rfl t0 rfl rfl rfl rfl dL_law_255 (k_m_X10_person X.1.2.1 X.2.1 (g_n X) (g_T X) (g_ag_sub hA (by decide +kernel)) N (xs (x3 + (1 : Int32)).toNatClampNeg) (xs (x3 + (2 : Int32)).toNatClampNeg) σ a ha)) (fun q27 => ?_)
                refine G_aload_n C dL_law_258 rfl 2 rfl ?_
                refine G_aload_n C dL_law_259 rfl 0 rfl ?_
                refine G_iload_n C dL_law_260 rfl 3 rfl ?_
                refine G_iconst C dL_law_261 (v := 1) (by decide +kernel) ?_
                refine G_iadd C dL_law_262 ?_
                refine G_chk (fun h28 => ?_)
                refine G_sld C S h28 dL_law_263 ?_
                refine G_aload_n C dL_law_264 rfl 0 rfl ?_
                refine G_iload_n C dL_law_265 rfl 3 rfl ?_
                refine G_iconst C dL_law_266 (v := 2) (by decide +kernel) ?_
                refine G_iadd C dL_law_267 ?_
                refine G_chk (fun h29 => ?_)
                refine G_sld C S h29 dL_law_268 ?_
                refine G_callI (rest := [.int q27.1]) (fun a ha => g_runV C (nargs := 2) (As := [.int (xs (x3 + (1 : Int32)).toNatClampNeg), .int (xs (x3 + (2 : Int32)).toNatClampNeg)]) (rest := [.int q27.1]) gl_X11_person rfl (by decide +kernel) rfl t77 rfl rfl rfl rfl dL_law_269 (k_m_X11_person X.1.2.1 X.2.1 (g_n X) (g_T X) (g_ag_sub hA (by decide +kernel)) N (xs (x3 + (1 : Int32)).toNatClampNeg) (xs (x3 + (2 : Int32)).toNatClampNeg) q27.2 a ha)) (fun q30 => ?_)
                refine G_icmp_eq C dL_law_272 (tgt := 975) (by decide) (fun c31 => ?_) (fun c31 => ?_)
                · exact w_m_law_975 C q hA S (m_law_18 xs L N fu) ih N x3 q30.2
                · refine G_iconst C dL_law_275 (v := 0) (by decide +kernel) ?_
                  exact G_none
              · refine G_ite (fun e32 => ?_) (fun e32 => ?_)
                · refine G_tsIn C dL_law_32 e32 (off := 245) (tgt := 277) (by decide +kernel) ?_
                  refine G_aload_n C dL_law_277 rfl 1 rfl ?_
                  refine G_aload_n C dL_law_278 rfl 0 rfl ?_
                  refine G_iload_n C dL_law_279 rfl 3 rfl ?_
                  refine G_iconst C dL_law_280 (v := 1) (by decide +kernel) ?_
                  refine G_iadd C dL_law_281 ?_
                  refine G_chk (fun h33 => ?_)
                  refine G_sld C S h33 dL_law_282 ?_
                  refine G_aload_n C dL_law_283 rfl 0 rfl ?_
                  refine G_iload_n C dL_law_284 rfl 3 rfl ?_
                  refine G_iconst C dL_law_285 (v := 2) (by decide +kernel) ?_
                  refine G_iadd C dL_law_286 ?_
                  refine G_chk (fun h34 => ?_)
                  refine G_sld C S h34 dL_law_287 ?_
                  refine G_callI (rest := []) (fun a ha => g_runV C (nargs := 2) (As := [.int (xs (x3 + (1 : Int32)).toNatClampNeg), .int (xs (x3 + (2 : Int32)).toNatClampNeg)]) (rest := []) gl_X10_ticket rfl (by decide +kernel) rfl t0 rfl rfl rfl rfl dL_law_288 (k_m_X10_ticket X.1.2.1 X.2.1 (g_n X) (g_T X) (g_ag_sub hA (by decide +kernel)) (xs (x3 + (1 : Int32)).toNatClampNeg) (xs (x3 + (2 : Int32)).toNatClampNeg) σ a ha)) (fun q35 => ?_)
                  refine G_aload_n C dL_law_291 rfl 2 rfl ?_
                  refine G_aload_n C dL_law_292 rfl 0 rfl ?_
                  refine G_iload_n C dL_law_293 rfl 3 rfl ?_
                  refine G_iconst C dL_law_294 (v := 1) (by decide +kernel) ?_
                  refine G_iadd C dL_law_295 ?_
                  refine G_chk (fun h36 => ?_)
                  refine G_sld C S h36 dL_law_296 ?_
                  refine G_aload_n C dL_law_297 rfl 0 rfl ?_
                  refine G_iload_n C dL_law_298 rfl 3 rfl ?_
                  refine G_iconst C dL_law_299 (v := 2) (by decide +kernel) ?_
                  refine G_iadd C dL_law_300 ?_
                  refine G_chk (fun h37 => ?_)
                  refine G_sld C S h37 dL_law_301 ?_
                  refine G_callI (rest := [.int q35.1]) (fun a ha => g_runV C (nargs := 2) (As := [.int (xs (x3 + (1 : Int32)).toNatClampNeg), .int (xs (x3 + (2 : Int32)).toNatClampNeg)]) (rest := [.int q35.1]) gl_X11_ticket rfl (by decide +kernel) rfl t77 rfl rfl rfl rfl dL_law_302 (k_m_X11_ticket X.1.2.1 X.2.1 (g_n X) (g_T X) (g_ag_sub hA (by decide +kernel)) (xs (x3 + (1 : Int32)).toNatClampNeg) (xs (x3 + (2 : Int32)).toNatClampNeg) q35.2 a ha)) (fun q38 => ?_)
                  refine G_icmp_eq C dL_law_305 (tgt := 975) (by decide) (fun c39 => ?_) (fun c39 => ?_)
                  · exact w_m_law_975 C q hA S (m_law_18 xs L N fu) ih N x3 q38.2
                  · refine G_iconst C dL_law_308 (v := 0) (by decide +kernel) ?_
                    exact G_none
                · refine G_ite (fun e40 => ?_) (fun e40 => ?_)
                  · refine G_tsIn C dL_law_32 e40 (off := 278) (tgt := 310) (by decide +kernel) ?_
                    refine G_aload_n C dL_law_310 rfl 1 rfl ?_
                    refine G_aload_n C dL_law_311 rfl 0 rfl ?_
                    refine G_iload_n C dL_law_312 rfl 3 rfl ?_
                    refine G_iconst C dL_law_313 (v := 1) (by decide +kernel) ?_
                    refine G_iadd C dL_law_314 ?_
                    refine G_chk (fun h41 => ?_)
                    refine G_sld C S h41 dL_law_315 ?_
                    refine G_callI (rest := []) (fun a ha => g_runV C (nargs := 1) (As := [.int (xs (x3 + (1 : Int32)).toNatClampNeg)]) (rest := []) gl_X10_right rfl (by decide +kernel) rfl t0 rfl rfl rfl rfl dL_law_316 (k_m_X10_right X.1.2.1 X.2.1 (g_n X) (g_T X) (g_ag_sub hA (by decide +kernel)) (xs (x3 + (1 : Int32)).toNatClampNeg) σ a ha)) (fun q42 => ?_)
                    refine G_aload_n C dL_law_319 rfl 2 rfl ?_
                    refine G_aload_n C dL_law_320 rfl 0 rfl ?_
                    refine G_iload_n C dL_law_321 rfl 3 rfl ?_
                    refine G_iconst C dL_law_322 (v := 1) (by decide +kernel) ?_
                    refine G_iadd C dL_law_323 ?_
                    refine G_chk (fun h43 => ?_)
                    refine G_sld C S h43 dL_law_324 ?_
                    refine G_callI (rest := [.int q42.1]) (fun a ha => g_runV C (nargs := 1) (As := [.int (xs (x3 + (1 : Int32)).toNatClampNeg)]) (rest := [.int q42.1]) gl_X11_right rfl (by decide +kernel) rfl t77 rfl rfl rfl rfl dL_law_325 (k_m_X11_right X.1.2.1 X.2.1 (g_n X) (g_T X) (g_ag_sub hA (by decide +kernel)) (xs (x3 + (1 : Int32)).toNatClampNeg) q42.2 a ha)) (fun q44 => ?_)
                    refine G_icmp_eq C dL_law_328 (tgt := 975) (by decide) (fun c45 => ?_) (fun c45 => ?_)
                    · exact w_m_law_975 C q hA S (m_law_18 xs L N fu) ih N x3 q44.2
                    · refine G_iconst C dL_law_331 (v := 0) (by decide +kernel) ?_
                      exact G_none
                  · refine G_ite (fun e46 => ?_) (fun e46 => ?_)
                    · refine G_tsIn C dL_law_32 e46 (off := 301) (tgt := 333) (by decide +kernel) ?_
                      refine G_aload_n C dL_law_333 rfl 1 rfl ?_
                      refine G_aload_n C dL_law_334 rfl 0 rfl ?_
                      refine G_iload_n C dL_law_335 rfl 3 rfl ?_
                      refine G_iconst C dL_law_336 (v := 1) (by decide +kernel) ?_
                      refine G_iadd C dL_law_337 ?_
                      refine G_chk (fun h47 => ?_)
                      refine G_sld C S h47 dL_law_338 ?_
                      refine G_callI (rest := []) (fun a ha => g_runV C (nargs := 1) (As := [.int (xs (x3 + (1 : Int32)).toNatClampNeg)]) (rest := []) gl_X10_draw rfl (by decide +kernel) rfl t0 rfl rfl rfl rfl dL_law_339 (k_m_X10_draw X.1.2.1 X.2.1 (g_n X) (g_T X) (g_ag_sub hA (by decide +kernel)) (xs (x3 + (1 : Int32)).toNatClampNeg) σ a ha)) (fun q48 => ?_)
                      refine G_aload_n C dL_law_342 rfl 2 rfl ?_
                      refine G_aload_n C dL_law_343 rfl 0 rfl ?_
                      refine G_iload_n C dL_law_344 rfl 3 rfl ?_
                      refine G_iconst C dL_law_345 (v := 1) (by decide +kernel) ?_
                      refine G_iadd C dL_law_346 ?_
                      refine G_chk (fun h49 => ?_)
                      refine G_sld C S h49 dL_law_347 ?_
                      refine G_callI (rest := [.int q48.1]) (fun a ha => g_runV C (nargs := 1) (As := [.int (xs (x3 + (1 : Int32)).toNatClampNeg)]) (rest := [.int q48.1]) gl_X11_draw rfl (by decide +kernel) rfl t77 rfl rfl rfl rfl dL_law_348 (k_m_X11_draw X.1.2.1 X.2.1 (g_n X) (g_T X) (g_ag_sub hA (by decide +kernel)) N (xs (x3 + (1 : Int32)).toNatClampNeg) q48.2 a ha)) (fun q50 => ?_)
                      refine G_icmp_eq C dL_law_351 (tgt := 975) (by decide) (fun c51 => ?_) (fun c51 => ?_)
                      · exact w_m_law_975 C q hA S (m_law_18 xs L N fu) ih N x3 q50.2
                      · refine G_iconst C dL_law_354 (v := 0) (by decide +kernel) ?_
                        exact G_none
                    · refine G_ite (fun e52 => ?_) (fun e52 => ?_)
                      · refine G_tsIn C dL_law_32 e52 (off := 324) (tgt := 356) (by decide +kernel) ?_
                        refine G_aload_n C dL_law_356 rfl 1 rfl ?_
                        refine G_aload_n C dL_law_357 rfl 0 rfl ?_
                        refine G_iload_n C dL_law_358 rfl 3 rfl ?_
                        refine G_iconst C dL_law_359 (v := 1) (by decide +kernel) ?_
                        refine G_iadd C dL_law_360 ?_
                        refine G_chk (fun h53 => ?_)
                        refine G_sld C S h53 dL_law_361 ?_
                        refine G_callI (rest := []) (fun a ha => g_runV C (nargs := 1) (As := [.int (xs (x3 + (1 : Int32)).toNatClampNeg)]) (rest := []) gl_X10_lots rfl (by decide +kernel) rfl t0 rfl rfl rfl rfl dL_law_362 (k_m_X10_lots X.1.2.1 X.2.1 (g_n X) (g_T X) (g_ag_sub hA (by decide +kernel)) N (xs (x3 + (1 : Int32)).toNatClampNeg) σ a ha)) (fun q54 => ?_)
                        refine G_aload_n C dL_law_365 rfl 2 rfl ?_
                        refine G_aload_n C dL_law_366 rfl 0 rfl ?_
                        refine G_iload_n C dL_law_367 rfl 3 rfl ?_
                        refine G_iconst C dL_law_368 (v := 1) (by decide +kernel) ?_
                        refine G_iadd C dL_law_369 ?_
                        refine G_chk (fun h55 => ?_)
                        refine G_sld C S h55 dL_law_370 ?_
                        refine G_callI (rest := [.int q54.1]) (fun a ha => g_runV C (nargs := 1) (As := [.int (xs (x3 + (1 : Int32)).toNatClampNeg)]) (rest := [.int q54.1]) gl_X11_lots rfl (by decide +kernel) rfl t77 rfl rfl rfl rfl dL_law_371 (k_m_X11_lots X.1.2.1 X.2.1 (g_n X) (g_T X) (g_ag_sub hA (by decide +kernel)) N (xs (x3 + (1 : Int32)).toNatClampNeg) q54.2 a ha)) (fun q56 => ?_)
                        refine G_icmp_eq C dL_law_374 (tgt := 975) (by decide) (fun c57 => ?_) (fun c57 => ?_)
                        · exact w_m_law_975 C q hA S (m_law_18 xs L N fu) ih N x3 q56.2
                        · refine G_iconst C dL_law_377 (v := 0) (by decide +kernel) ?_
                          exact G_none
                      · refine G_ite (fun e58 => ?_) (fun e58 => ?_)
                        · refine G_tsIn C dL_law_32 e58 (off := 347) (tgt := 379) (by decide +kernel) ?_
                          refine G_aload_n C dL_law_379 rfl 1 rfl ?_
                          refine G_aload_n C dL_law_380 rfl 0 rfl ?_
                          refine G_iload_n C dL_law_381 rfl 3 rfl ?_
                          refine G_iconst C dL_law_382 (v := 1) (by decide +kernel) ?_
                          refine G_iadd C dL_law_383 ?_
                          refine G_chk (fun h59 => ?_)
                          refine G_sld C S h59 dL_law_384 ?_
                          refine G_aload_n C dL_law_385 rfl 0 rfl ?_
                          refine G_iload_n C dL_law_386 rfl 3 rfl ?_
                          refine G_iconst C dL_law_387 (v := 2) (by decide +kernel) ?_
                          refine G_iadd C dL_law_388 ?_
                          refine G_chk (fun h60 => ?_)
                          refine G_sld C S h60 dL_law_389 ?_
                          refine G_callI (rest := []) (fun a ha => g_runV C (nargs := 2) (As := [.int (xs (x3 + (1 : Int32)).toNatClampNeg), .int (xs (x3 + (2 : Int32)).toNatClampNeg)]) (rest := []) gl_X10_sell rfl (by decide +kernel) rfl t0 rfl rfl rfl rfl dL_law_390 (k_m_X10_sell X.1.2.1 X.2.1 (g_n X) (g_T X) (g_ag_sub hA (by decide +kernel)) (xs (x3 + (1 : Int32)).toNatClampNeg) (xs (x3 + (2 : Int32)).toNatClampNeg) σ a ha)) (fun q61 => ?_)
                          refine G_aload_n C dL_law_393 rfl 2 rfl ?_
                          refine G_aload_n C dL_law_394 rfl 0 rfl ?_
                          refine G_iload_n C dL_law_395 rfl 3 rfl ?_
                          refine G_iconst C dL_law_396 (v := 1) (by decide +kernel) ?_
                          refine G_iadd C dL_law_397 ?_
                          refine G_chk (fun h62 => ?_)
                          refine G_sld C S h62 dL_law_398 ?_
                          refine G_aload_n C dL_law_399 rfl 0 rfl ?_
                          refine G_iload_n C dL_law_400 rfl 3 rfl ?_
                          refine G_iconst C dL_law_401 (v := 2) (by decide +kernel) ?_
                          refine G_iadd C dL_law_402 ?_
                          refine G_chk (fun h63 => ?_)
                          refine G_sld C S h63 dL_law_403 ?_
                          refine G_callI (rest := [.int q61.1]) (fun a ha => g_runV C (nargs := 2) (As := [.int (xs (x3 + (1 : Int32)).toNatClampNeg), .int (xs (x3 + (2 : Int32)).toNatClampNeg)]) (rest := [.int q61.1]) gl_X11_sell rfl (by decide +kernel) rfl t77 rfl rfl rfl rfl dL_law_404 (k_m_X11_sell X.1.2.1 X.2.1 (g_n X) (g_T X) (g_ag_sub hA (by decide +kernel)) (xs (x3 + (1 : Int32)).toNatClampNeg) (xs (x3 + (2 : Int32)).toNatClampNeg) q61.2 a ha)) (fun q64 => ?_)
                          refine G_icmp_eq C dL_law_407 (tgt := 975) (by decide) (fun c65 => ?_) (fun c65 => ?_)
                          · exact w_m_law_975 C q hA S (m_law_18 xs L N fu) ih N x3 q64.2
                          · refine G_iconst C dL_law_410 (v := 0) (by decide +kernel) ?_
                            exact G_none
                        · refine G_ite (fun e66 => ?_) (fun e66 => ?_)
                          · refine G_tsIn C dL_law_32 e66 (off := 380) (tgt := 412) (by decide +kernel) ?_
                            refine G_aload_n C dL_law_412 rfl 1 rfl ?_
                            refine G_aload_n C dL_law_413 rfl 0 rfl ?_
                            refine G_iload_n C dL_law_414 rfl 3 rfl ?_
                            refine G_iconst C dL_law_415 (v := 1) (by decide +kernel) ?_
                            refine G_iadd C dL_law_416 ?_
                            refine G_chk (fun h67 => ?_)
                            refine G_sld C S h67 dL_law_417 ?_
                            refine G_aload_n C dL_law_418 rfl 0 rfl ?_
                            refine G_iload_n C dL_law_419 rfl 3 rfl ?_
                            refine G_iconst C dL_law_420 (v := 2) (by decide +kernel) ?_
                            refine G_iadd C dL_law_421 ?_
                            refine G_chk (fun h68 => ?_)
                            refine G_sld C S h68 dL_law_422 ?_
                            refine G_callI (rest := []) (fun a ha => g_runV C (nargs := 2) (As := [.int (xs (x3 + (1 : Int32)).toNatClampNeg), .int (xs (x3 + (2 : Int32)).toNatClampNeg)]) (rest := []) gl_X10_pawn rfl (by decide +kernel) rfl t0 rfl rfl rfl rfl dL_law_423 (k_m_X10_pawn X.1.2.1 X.2.1 (g_n X) (g_T X) (g_ag_sub hA (by decide +kernel)) (xs (x3 + (1 : Int32)).toNatClampNeg) (xs (x3 + (2 : Int32)).toNatClampNeg) σ a ha)) (fun q69 => ?_)
                            refine G_aload_n C dL_law_426 rfl 2 rfl ?_
                            refine G_aload_n C dL_law_427 rfl 0 rfl ?_
                            refine G_iload_n C dL_law_428 rfl 3 rfl ?_
                            refine G_iconst C dL_law_429 (v := 1) (by decide +kernel) ?_
                            refine G_iadd C dL_law_430 ?_
                            refine G_chk (fun h70 => ?_)
                            refine G_sld C S h70 dL_law_431 ?_
                            refine G_aload_n C dL_law_432 rfl 0 rfl ?_
                            refine G_iload_n C dL_law_433 rfl 3 rfl ?_
                            refine G_iconst C dL_law_434 (v := 2) (by decide +kernel) ?_
                            refine G_iadd C dL_law_435 ?_
                            refine G_chk (fun h71 => ?_)
                            refine G_sld C S h71 dL_law_436 ?_
                            refine G_callI (rest := [.int q69.1]) (fun a ha => g_runV C (nargs := 2) (As := [.int (xs (x3 + (1 : Int32)).toNatClampNeg), .int (xs (x3 + (2 : Int32)).toNatClampNeg)]) (rest := [.int q69.1]) gl_X11_pawn rfl (by decide +kernel) rfl t77 rfl rfl rfl rfl dL_law_437 (k_m_X11_pawn X.1.2.1 X.2.1 (g_n X) (g_T X) (g_ag_sub hA (by decide +kernel)) (xs (x3 + (1 : Int32)).toNatClampNeg) (xs (x3 + (2 : Int32)).toNatClampNeg) q69.2 a ha)) (fun q72 => ?_)
                            refine G_icmp_eq C dL_law_440 (tgt := 975) (by decide) (fun c73 => ?_) (fun c73 => ?_)
                            · exact w_m_law_975 C q hA S (m_law_18 xs L N fu) ih N x3 q72.2
                            · refine G_iconst C dL_law_443 (v := 0) (by decide +kernel) ?_
                              exact G_none
                          · refine G_ite (fun e74 => ?_) (fun e74 => ?_)
                            · refine G_tsIn C dL_law_32 e74 (off := 413) (tgt := 445) (by decide +kernel) ?_
                              refine G_aload_n C dL_law_445 rfl 1 rfl ?_
                              refine G_aload_n C dL_law_446 rfl 0 rfl ?_
                              refine G_iload_n C dL_law_447 rfl 3 rfl ?_
                              refine G_iconst C dL_law_448 (v := 1) (by decide +kernel) ?_
                              refine G_iadd C dL_law_449 ?_
                              refine G_chk (fun h75 => ?_)
                              refine G_sld C S h75 dL_law_450 ?_
                              refine G_aload_n C dL_law_451 rfl 0 rfl ?_
                              refine G_iload_n C dL_law_452 rfl 3 rfl ?_
                              refine G_iconst C dL_law_453 (v := 2) (by decide +kernel) ?_
                              refine G_iadd C dL_law_454 ?_
                              refine G_chk (fun h76 => ?_)
                              refine G_sld C S h76 dL_law_455 ?_
                              refine G_callI (rest := []) (fun a ha => g_runV C (nargs := 2) (As := [.int (xs (x3 + (1 : Int32)).toNatClampNeg), .int (xs (x3 + (2 : Int32)).toNatClampNeg)]) (rest := []) gl_X10_price rfl (by decide +kernel) rfl t0 rfl rfl rfl rfl dL_law_456 (k_m_X10_price X.1.2.1 X.2.1 (g_n X) (g_T X) (g_ag_sub hA (by decide +kernel)) (xs (x3 + (1 : Int32)).toNatClampNeg) (xs (x3 + (2 : Int32)).toNatClampNeg) σ a ha)) (fun q77 => ?_)
                              refine G_aload_n C dL_law_459 rfl 2 rfl ?_
                              refine G_aload_n C dL_law_460 rfl 0 rfl ?_
                              refine G_iload_n C dL_law_461 rfl 3 rfl ?_
                              refine G_iconst C dL_law_462 (v := 1) (by decide +kernel) ?_
                              refine G_iadd C dL_law_463 ?_
                              refine G_chk (fun h78 => ?_)
                              refine G_sld C S h78 dL_law_464 ?_
                              refine G_aload_n C dL_law_465 rfl 0 rfl ?_
                              refine G_iload_n C dL_law_466 rfl 3 rfl ?_
                              refine G_iconst C dL_law_467 (v := 2) (by decide +kernel) ?_
                              refine G_iadd C dL_law_468 ?_
                              refine G_chk (fun h79 => ?_)
                              refine G_sld C S h79 dL_law_469 ?_
                              refine G_callI (rest := [.int q77.1]) (fun a ha => g_runV C (nargs := 2) (As := [.int (xs (x3 + (1 : Int32)).toNatClampNeg), .int (xs (x3 + (2 : Int32)).toNatClampNeg)]) (rest := [.int q77.1]) gl_X11_price rfl (by decide +kernel) rfl t77 rfl rfl rfl rfl dL_law_470 (k_m_X11_price X.1.2.1 X.2.1 (g_n X) (g_T X) (g_ag_sub hA (by decide +kernel)) (xs (x3 + (1 : Int32)).toNatClampNeg) (xs (x3 + (2 : Int32)).toNatClampNeg) q77.2 a ha)) (fun q80 => ?_)
                              refine G_icmp_eq C dL_law_473 (tgt := 975) (by decide) (fun c81 => ?_) (fun c81 => ?_)
                              · exact w_m_law_975 C q hA S (m_law_18 xs L N fu) ih N x3 q80.2
                              · refine G_iconst C dL_law_476 (v := 0) (by decide +kernel) ?_
                                exact G_none
                            · refine G_ite (fun e82 => ?_) (fun e82 => ?_)
                              · refine G_tsIn C dL_law_32 e82 (off := 446) (tgt := 478) (by decide +kernel) ?_
                                refine G_aload_n C dL_law_478 rfl 1 rfl ?_
                                refine G_aload_n C dL_law_479 rfl 0 rfl ?_
                                refine G_iload_n C dL_law_480 rfl 3 rfl ?_
                                refine G_iconst C dL_law_481 (v := 1) (by decide +kernel) ?_
                                refine G_iadd C dL_law_482 ?_
                                refine G_chk (fun h83 => ?_)
                                refine G_sld C S h83 dL_law_483 ?_
                                refine G_callI (rest := []) (fun a ha => g_runV C (nargs := 1) (As := [.int (xs (x3 + (1 : Int32)).toNatClampNeg)]) (rest := []) gl_X10_undo rfl (by decide +kernel) rfl t0 rfl rfl rfl rfl dL_law_484 (k_m_X10_undo X.1.2.1 X.2.1 (g_n X) (g_T X) (g_ag_sub hA (by decide +kernel)) (xs (x3 + (1 : Int32)).toNatClampNeg) σ a ha)) (fun q84 => ?_)
                                refine G_aload_n C dL_law_487 rfl 2 rfl ?_
                                refine G_aload_n C dL_law_488 rfl 0 rfl ?_
                                refine G_iload_n C dL_law_489 rfl 3 rfl ?_
                                refine G_iconst C dL_law_490 (v := 1) (by decide +kernel) ?_
                                refine G_iadd C dL_law_491 ?_
                                refine G_chk (fun h85 => ?_)
                                refine G_sld C S h85 dL_law_492 ?_
                                refine G_callI (rest := [.int q84.1]) (fun a ha => g_runV C (nargs := 1) (As := [.int (xs (x3 + (1 : Int32)).toNatClampNeg)]) (rest := [.int q84.1]) gl_X11_undo rfl (by decide +kernel) rfl t77 rfl rfl rfl rfl dL_law_493 (k_m_X11_undo X.1.2.1 X.2.1 (g_n X) (g_T X) (g_ag_sub hA (by decide +kernel)) N (xs (x3 + (1 : Int32)).toNatClampNeg) q84.2 a ha)) (fun q86 => ?_)
                                refine G_icmp_eq C dL_law_496 (tgt := 975) (by decide) (fun c87 => ?_) (fun c87 => ?_)
                                · exact w_m_law_975 C q hA S (m_law_18 xs L N fu) ih N x3 q86.2
                                · refine G_iconst C dL_law_499 (v := 0) (by decide +kernel) ?_
                                  exact G_none
                              · refine G_ite (fun e88 => ?_) (fun e88 => ?_)
                                · refine G_tsIn C dL_law_32 e88 (off := 469) (tgt := 501) (by decide +kernel) ?_
                                  refine G_aload_n C dL_law_501 rfl 1 rfl ?_
                                  refine G_aload_n C dL_law_502 rfl 0 rfl ?_
                                  refine G_iload_n C dL_law_503 rfl 3 rfl ?_
                                  refine G_iconst C dL_law_504 (v := 1) (by decide +kernel) ?_
                                  refine G_iadd C dL_law_505 ?_
                                  refine G_chk (fun h89 => ?_)
                                  refine G_sld C S h89 dL_law_506 ?_
                                  refine G_aload_n C dL_law_507 rfl 0 rfl ?_
                                  refine G_iload_n C dL_law_508 rfl 3 rfl ?_
                                  refine G_iconst C dL_law_509 (v := 2) (by decide +kernel) ?_
                                  refine G_iadd C dL_law_510 ?_
                                  refine G_chk (fun h90 => ?_)
                                  refine G_sld C S h90 dL_law_511 ?_
                                  refine G_callI (rest := []) (fun a ha => g_runV C (nargs := 2) (As := [.int (xs (x3 + (1 : Int32)).toNatClampNeg), .int (xs (x3 + (2 : Int32)).toNatClampNeg)]) (rest := []) gl_X10_odds rfl (by decide +kernel) rfl t0 rfl rfl rfl rfl dL_law_512 (k_m_X10_odds X.1.2.1 X.2.1 (g_n X) (g_T X) (g_ag_sub hA (by decide +kernel)) N (xs (x3 + (1 : Int32)).toNatClampNeg) (xs (x3 + (2 : Int32)).toNatClampNeg) σ a ha)) (fun q91 => ?_)
                                  refine G_aload_n C dL_law_515 rfl 2 rfl ?_
                                  refine G_aload_n C dL_law_516 rfl 0 rfl ?_
                                  refine G_iload_n C dL_law_517 rfl 3 rfl ?_
                                  refine G_iconst C dL_law_518 (v := 1) (by decide +kernel) ?_
                                  refine G_iadd C dL_law_519 ?_
                                  refine G_chk (fun h92 => ?_)
                                  refine G_sld C S h92 dL_law_520 ?_
                                  refine G_aload_n C dL_law_521 rfl 0 rfl ?_
                                  refine G_iload_n C dL_law_522 rfl 3 rfl ?_
                                  refine G_iconst C dL_law_523 (v := 2) (by decide +kernel) ?_
                                  refine G_iadd C dL_law_524 ?_
                                  refine G_chk (fun h93 => ?_)
                                  refine G_sld C S h93 dL_law_525 ?_
                                  refine G_callI (rest := [.int q91.1]) (fun a ha => g_runV C (nargs := 2) (As := [.int (xs (x3 + (1 : Int32)).toNatClampNeg), .int (xs (x3 + (2 : Int32)).toNatClampNeg)]) (rest := [.int q91.1]) gl_X11_odds rfl (by decide +kernel) rfl t77 rfl rfl rfl rfl dL_law_526 (k_m_X11_odds X.1.2.1 X.2.1 (g_n X) (g_T X) (g_ag_sub hA (by decide +kernel)) N (xs (x3 + (1 : Int32)).toNatClampNeg) (xs (x3 + (2 : Int32)).toNatClampNeg) q91.2 a ha)) (fun q94 => ?_)
                                  refine G_icmp_eq C dL_law_529 (tgt := 975) (by decide) (fun c95 => ?_) (fun c95 => ?_)
                                  · exact w_m_law_975 C q hA S (m_law_18 xs L N fu) ih N x3 q94.2
                                  · refine G_iconst C dL_law_532 (v := 0) (by decide +kernel) ?_
                                    exact G_none
                                · refine G_ite (fun e96 => ?_) (fun e96 => ?_)
                                  · refine G_tsIn C dL_law_32 e96 (off := 502) (tgt := 534) (by decide +kernel) ?_
                                    refine G_aload_n C dL_law_534 rfl 1 rfl ?_
                                    refine G_aload_n C dL_law_535 rfl 0 rfl ?_
                                    refine G_iload_n C dL_law_536 rfl 3 rfl ?_
                                    refine G_iconst C dL_law_537 (v := 1) (by decide +kernel) ?_
                                    refine G_iadd C dL_law_538 ?_
                                    refine G_chk (fun h97 => ?_)
                                    refine G_sld C S h97 dL_law_539 ?_
                                    refine G_aload_n C dL_law_540 rfl 0 rfl ?_
                                    refine G_iload_n C dL_law_541 rfl 3 rfl ?_
                                    refine G_iconst C dL_law_542 (v := 2) (by decide +kernel) ?_
                                    refine G_iadd C dL_law_543 ?_
                                    refine G_chk (fun h98 => ?_)
                                    refine G_sld C S h98 dL_law_544 ?_
                                    refine G_callI (rest := []) (fun a ha => g_runV C (nargs := 2) (As := [.int (xs (x3 + (1 : Int32)).toNatClampNeg), .int (xs (x3 + (2 : Int32)).toNatClampNeg)]) (rest := []) gl_X10_never rfl (by decide +kernel) rfl t0 rfl rfl rfl rfl dL_law_545 (k_m_X10_never X.1.2.1 X.2.1 (g_n X) (g_T X) (g_ag_sub hA (by decide +kernel)) N (xs (x3 + (1 : Int32)).toNatClampNeg) (xs (x3 + (2 : Int32)).toNatClampNeg) σ a ha)) (fun q99 => ?_)
                                    refine G_aload_n C dL_law_548 rfl 2 rfl ?_
                                    refine G_aload_n C dL_law_549 rfl 0 rfl ?_
                                    refine G_iload_n C dL_law_550 rfl 3 rfl ?_
                                    refine G_iconst C dL_law_551 (v := 1) (by decide +kernel) ?_
                                    refine G_iadd C dL_law_552 ?_
                                    refine G_chk (fun h100 => ?_)
                                    refine G_sld C S h100 dL_law_553 ?_
                                    refine G_aload_n C dL_law_554 rfl 0 rfl ?_
                                    refine G_iload_n C dL_law_555 rfl 3 rfl ?_
                                    refine G_iconst C dL_law_556 (v := 2) (by decide +kernel) ?_
                                    refine G_iadd C dL_law_557 ?_
                                    refine G_chk (fun h101 => ?_)
                                    refine G_sld C S h101 dL_law_558 ?_
                                    refine G_callI (rest := [.int q99.1]) (fun a ha => g_runV C (nargs := 2) (As := [.int (xs (x3 + (1 : Int32)).toNatClampNeg), .int (xs (x3 + (2 : Int32)).toNatClampNeg)]) (rest := [.int q99.1]) gl_X11_never rfl (by decide +kernel) rfl t77 rfl rfl rfl rfl dL_law_559 (k_m_X11_never X.1.2.1 X.2.1 (g_n X) (g_T X) (g_ag_sub hA (by decide +kernel)) N (xs (x3 + (1 : Int32)).toNatClampNeg) (xs (x3 + (2 : Int32)).toNatClampNeg) q99.2 a ha)) (fun q102 => ?_)
                                    refine G_icmp_eq C dL_law_562 (tgt := 975) (by decide) (fun c103 => ?_) (fun c103 => ?_)
                                    · exact w_m_law_975 C q hA S (m_law_18 xs L N fu) ih N x3 q102.2
                                    · refine G_iconst C dL_law_565 (v := 0) (by decide +kernel) ?_
                                      exact G_none
                                  · refine G_ite (fun e104 => ?_) (fun e104 => ?_)
                                    · refine G_tsIn C dL_law_32 e104 (off := 535) (tgt := 567) (by decide +kernel) ?_
                                      refine G_aload_n C dL_law_567 rfl 1 rfl ?_
                                      refine G_aload_n C dL_law_568 rfl 0 rfl ?_
                                      refine G_iload_n C dL_law_569 rfl 3 rfl ?_
                                      refine G_iconst C dL_law_570 (v := 1) (by decide +kernel) ?_
                                      refine G_iadd C dL_law_571 ?_
                                      refine G_chk (fun h105 => ?_)
                                      refine G_sld C S h105 dL_law_572 ?_
                                      refine G_aload_n C dL_law_573 rfl 0 rfl ?_
                                      refine G_iload_n C dL_law_574 rfl 3 rfl ?_
                                      refine G_iconst C dL_law_575 (v := 2) (by decide +kernel) ?_
                                      refine G_iadd C dL_law_576 ?_
                                      refine G_chk (fun h106 => ?_)
                                      refine G_sld C S h106 dL_law_577 ?_
                                      refine G_aload_n C dL_law_578 rfl 0 rfl ?_
                                      refine G_iload_n C dL_law_579 rfl 3 rfl ?_
                                      refine G_iconst C dL_law_580 (v := 3) (by decide +kernel) ?_
                                      refine G_iadd C dL_law_581 ?_
                                      refine G_chk (fun h107 => ?_)
                                      refine G_sld C S h107 dL_law_582 ?_
                                      refine G_aload_n C dL_law_583 rfl 0 rfl ?_
                                      refine G_iload_n C dL_law_584 rfl 3 rfl ?_
                                      refine G_iconst C dL_law_585 (v := 4) (by decide +kernel) ?_
                                      refine G_iadd C dL_law_586 ?_
                                      refine G_chk (fun h108 => ?_)
                                      refine G_sld C S h108 dL_law_587 ?_
                                      refine G_callI (rest := []) (fun a ha => g_runV C (nargs := 4) (As := [.int (xs (x3 + (1 : Int32)).toNatClampNeg), .int (xs (x3 + (2 : Int32)).toNatClampNeg), .int (xs (x3 + (3 : Int32)).toNatClampNeg), .int (xs (x3 + (4 : Int32)).toNatClampNeg)]) (rest := []) gl_X10_buy rfl (by decide +kernel) rfl t0 rfl rfl rfl rfl dL_law_588 (k_m_X10_buy X.1.2.1 X.2.1 (g_n X) (g_T X) (g_ag_sub hA (by decide +kernel)) N (xs (x3 + (1 : Int32)).toNatClampNeg) (xs (x3 + (2 : Int32)).toNatClampNeg) (xs (x3 + (3 : Int32)).toNatClampNeg) (xs (x3 + (4 : Int32)).toNatClampNeg) σ a ha)) (fun q109 => ?_)
                                      refine G_aload_n C dL_law_591 rfl 2 rfl ?_
                                      refine G_aload_n C dL_law_592 rfl 0 rfl ?_
                                      refine G_iload_n C dL_law_593 rfl 3 rfl ?_
                                      refine G_iconst C dL_law_594 (v := 1) (by decide +kernel) ?_
                                      refine G_iadd C dL_law_595 ?_
                                      refine G_chk (fun h110 => ?_)
                                      refine G_sld C S h110 dL_law_596 ?_
                                      refine G_aload_n C dL_law_597 rfl 0 rfl ?_
                                      refine G_iload_n C dL_law_598 rfl 3 rfl ?_
                                      refine G_iconst C dL_law_599 (v := 2) (by decide +kernel) ?_
                                      refine G_iadd C dL_law_600 ?_
                                      refine G_chk (fun h111 => ?_)
                                      refine G_sld C S h111 dL_law_601 ?_
                                      refine G_aload_n C dL_law_602 rfl 0 rfl ?_
                                      refine G_iload_n C dL_law_603 rfl 3 rfl ?_
                                      refine G_iconst C dL_law_604 (v := 3) (by decide +kernel) ?_
                                      refine G_iadd C dL_law_605 ?_
                                      refine G_chk (fun h112 => ?_)
                                      refine G_sld C S h112 dL_law_606 ?_
                                      refine G_aload_n C dL_law_607 rfl 0 rfl ?_
                                      refine G_iload_n C dL_law_608 rfl 3 rfl ?_
                                      refine G_iconst C dL_law_609 (v := 4) (by decide +kernel) ?_
                                      refine G_iadd C dL_law_610 ?_
                                      refine G_chk (fun h113 => ?_)
                                      refine G_sld C S h113 dL_law_611 ?_
                                      refine G_callI (rest := [.int q109.1]) (fun a ha => g_runV C (nargs := 4) (As := [.int (xs (x3 + (1 : Int32)).toNatClampNeg), .int (xs (x3 + (2 : Int32)).toNatClampNeg), .int (xs (x3 + (3 : Int32)).toNatClampNeg), .int (xs (x3 + (4 : Int32)).toNatClampNeg)]) (rest := [.int q109.1]) gl_X11_buy rfl (by decide +kernel) rfl t77 rfl rfl rfl rfl dL_law_612 (k_m_X11_buy X.1.2.1 X.2.1 (g_n X) (g_T X) (g_ag_sub hA (by decide +kernel)) N (xs (x3 + (1 : Int32)).toNatClampNeg) (xs (x3 + (2 : Int32)).toNatClampNeg) (xs (x3 + (3 : Int32)).toNatClampNeg) (xs (x3 + (4 : Int32)).toNatClampNeg) q109.2 a ha)) (fun q114 => ?_)
                                      refine G_icmp_eq C dL_law_615 (tgt := 975) (by decide) (fun c115 => ?_) (fun c115 => ?_)
                                      · exact w_m_law_975 C q hA S (m_law_18 xs L N fu) ih N x3 q114.2
                                      · refine G_iconst C dL_law_618 (v := 0) (by decide +kernel) ?_
                                        exact G_none
                                    · refine G_ite (fun e116 => ?_) (fun e116 => ?_)
                                      · refine G_tsIn C dL_law_32 e116 (off := 588) (tgt := 620) (by decide +kernel) ?_
                                        refine G_aload_n C dL_law_620 rfl 1 rfl ?_
                                        refine G_aload_n C dL_law_621 rfl 0 rfl ?_
                                        refine G_iload_n C dL_law_622 rfl 3 rfl ?_
                                        refine G_iconst C dL_law_623 (v := 1) (by decide +kernel) ?_
                                        refine G_iadd C dL_law_624 ?_
                                        refine G_chk (fun h117 => ?_)
                                        refine G_sld C S h117 dL_law_625 ?_
                                        refine G_aload_n C dL_law_626 rfl 0 rfl ?_
                                        refine G_iload_n C dL_law_627 rfl 3 rfl ?_
                                        refine G_iconst C dL_law_628 (v := 2) (by decide +kernel) ?_
                                        refine G_iadd C dL_law_629 ?_
                                        refine G_chk (fun h118 => ?_)
                                        refine G_sld C S h118 dL_law_630 ?_
                                        refine G_callI (rest := []) (fun a ha => g_runV C (nargs := 2) (As := [.int (xs (x3 + (1 : Int32)).toNatClampNeg), .int (xs (x3 + (2 : Int32)).toNatClampNeg)]) (rest := []) gl_X10_evens rfl (by decide +kernel) rfl t0 rfl rfl rfl rfl dL_law_631 (k_m_X10_evens X.1.2.1 X.2.1 (g_n X) (g_T X) (g_ag_sub hA (by decide +kernel)) N (xs (x3 + (1 : Int32)).toNatClampNeg) (xs (x3 + (2 : Int32)).toNatClampNeg) σ a ha)) (fun q119 => ?_)
                                        refine G_aload_n C dL_law_634 rfl 2 rfl ?_
                                        refine G_aload_n C dL_law_635 rfl 0 rfl ?_
                                        refine G_iload_n C dL_law_636 rfl 3 rfl ?_
                                        refine G_iconst C dL_law_637 (v := 1) (by decide +kernel) ?_
                                        refine G_iadd C dL_law_638 ?_
                                        refine G_chk (fun h120 => ?_)
                                        refine G_sld C S h120 dL_law_639 ?_
                                        refine G_aload_n C dL_law_640 rfl 0 rfl ?_
                                        refine G_iload_n C dL_law_641 rfl 3 rfl ?_
                                        refine G_iconst C dL_law_642 (v := 2) (by decide +kernel) ?_
                                        refine G_iadd C dL_law_643 ?_
                                        refine G_chk (fun h121 => ?_)
                                        refine G_sld C S h121 dL_law_644 ?_
                                        refine G_callI (rest := [.int q119.1]) (fun a ha => g_runV C (nargs := 2) (As := [.int (xs (x3 + (1 : Int32)).toNatClampNeg), .int (xs (x3 + (2 : Int32)).toNatClampNeg)]) (rest := [.int q119.1]) gl_X11_evens rfl (by decide +kernel) rfl t77 rfl rfl rfl rfl dL_law_645 (k_m_X11_evens X.1.2.1 X.2.1 (g_n X) (g_T X) (g_ag_sub hA (by decide +kernel)) N (xs (x3 + (1 : Int32)).toNatClampNeg) (xs (x3 + (2 : Int32)).toNatClampNeg) q119.2 a ha)) (fun q122 => ?_)
                                        refine G_icmp_eq C dL_law_648 (tgt := 975) (by decide) (fun c123 => ?_) (fun c123 => ?_)
                                        · exact w_m_law_975 C q hA S (m_law_18 xs L N fu) ih N x3 q122.2
                                        · refine G_iconst C dL_law_651 (v := 0) (by decide +kernel) ?_
                                          exact G_none
                                      · refine G_ite (fun e124 => ?_) (fun e124 => ?_)
                                        · refine G_tsIn C dL_law_32 e124 (off := 621) (tgt := 653) (by decide +kernel) ?_
                                          refine G_aload_n C dL_law_653 rfl 1 rfl ?_
                                          refine G_aload_n C dL_law_654 rfl 0 rfl ?_
                                          refine G_iload_n C dL_law_655 rfl 3 rfl ?_
                                          refine G_iconst C dL_law_656 (v := 1) (by decide +kernel) ?_
                                          refine G_iadd C dL_law_657 ?_
                                          refine G_chk (fun h125 => ?_)
                                          refine G_sld C S h125 dL_law_658 ?_
                                          refine G_aload_n C dL_law_659 rfl 0 rfl ?_
                                          refine G_iload_n C dL_law_660 rfl 3 rfl ?_
                                          refine G_iconst C dL_law_661 (v := 2) (by decide +kernel) ?_
                                          refine G_iadd C dL_law_662 ?_
                                          refine G_chk (fun h126 => ?_)
                                          refine G_sld C S h126 dL_law_663 ?_
                                          refine G_callI (rest := []) (fun a ha => g_runV C (nargs := 2) (As := [.int (xs (x3 + (1 : Int32)).toNatClampNeg), .int (xs (x3 + (2 : Int32)).toNatClampNeg)]) (rest := []) gl_X10_couples rfl (by decide +kernel) rfl t0 rfl rfl rfl rfl dL_law_664 (k_m_X10_couples X.1.2.1 X.2.1 (g_n X) (g_T X) (g_ag_sub hA (by decide +kernel)) N (xs (x3 + (1 : Int32)).toNatClampNeg) (xs (x3 + (2 : Int32)).toNatClampNeg) σ a ha)) (fun q127 => ?_)
                                          refine G_aload_n C dL_law_667 rfl 2 rfl ?_
                                          refine G_aload_n C dL_law_668 rfl 0 rfl ?_
                                          refine G_iload_n C dL_law_669 rfl 3 rfl ?_
                                          refine G_iconst C dL_law_670 (v := 1) (by decide +kernel) ?_
                                          refine G_iadd C dL_law_671 ?_
                                          refine G_chk (fun h128 => ?_)
                                          refine G_sld C S h128 dL_law_672 ?_
                                          refine G_aload_n C dL_law_673 rfl 0 rfl ?_
                                          refine G_iload_n C dL_law_674 rfl 3 rfl ?_
                                          refine G_iconst C dL_law_675 (v := 2) (by decide +kernel) ?_
                                          refine G_iadd C dL_law_676 ?_
                                          refine G_chk (fun h129 => ?_)
                                          refine G_sld C S h129 dL_law_677 ?_
                                          refine G_callI (rest := [.int q127.1]) (fun a ha => g_runV C (nargs := 2) (As := [.int (xs (x3 + (1 : Int32)).toNatClampNeg), .int (xs (x3 + (2 : Int32)).toNatClampNeg)]) (rest := [.int q127.1]) gl_X11_couples rfl (by decide +kernel) rfl t77 rfl rfl rfl rfl dL_law_678 (k_m_X11_couples X.1.2.1 X.2.1 (g_n X) (g_T X) (g_ag_sub hA (by decide +kernel)) N (xs (x3 + (1 : Int32)).toNatClampNeg) (xs (x3 + (2 : Int32)).toNatClampNeg) q127.2 a ha)) (fun q130 => ?_)
                                          refine G_icmp_eq C dL_law_681 (tgt := 975) (by decide) (fun c131 => ?_) (fun c131 => ?_)
                                          · exact w_m_law_975 C q hA S (m_law_18 xs L N fu) ih N x3 q130.2
                                          · refine G_iconst C dL_law_684 (v := 0) (by decide +kernel) ?_
                                            exact G_none
                                        · refine G_ite (fun e132 => ?_) (fun e132 => ?_)
                                          · refine G_tsIn C dL_law_32 e132 (off := 654) (tgt := 686) (by decide +kernel) ?_
                                            refine G_aload_n C dL_law_686 rfl 1 rfl ?_
                                            refine G_aload_n C dL_law_687 rfl 0 rfl ?_
                                            refine G_iload_n C dL_law_688 rfl 3 rfl ?_
                                            refine G_iconst C dL_law_689 (v := 1) (by decide +kernel) ?_
                                            refine G_iadd C dL_law_690 ?_
                                            refine G_chk (fun h133 => ?_)
                                            refine G_sld C S h133 dL_law_691 ?_
                                            refine G_callI (rest := []) (fun a ha => g_runV C (nargs := 1) (As := [.int (xs (x3 + (1 : Int32)).toNatClampNeg)]) (rest := []) gl_X10_see rfl (by decide +kernel) rfl t0 rfl rfl rfl rfl dL_law_692 (k_m_X10_see X.1.2.1 X.2.1 (g_n X) (g_T X) (g_ag_sub hA (by decide +kernel)) (xs (x3 + (1 : Int32)).toNatClampNeg) σ a ha)) (fun q134 => ?_)
                                            refine G_aload_n C dL_law_695 rfl 2 rfl ?_
                                            refine G_aload_n C dL_law_696 rfl 0 rfl ?_
                                            refine G_iload_n C dL_law_697 rfl 3 rfl ?_
                                            refine G_iconst C dL_law_698 (v := 1) (by decide +kernel) ?_
                                            refine G_iadd C dL_law_699 ?_
                                            refine G_chk (fun h135 => ?_)
                                            refine G_sld C S h135 dL_law_700 ?_
                                            refine G_callI (rest := [.int q134.1]) (fun a ha => g_runV C (nargs := 1) (As := [.int (xs (x3 + (1 : Int32)).toNatClampNeg)]) (rest := [.int q134.1]) gl_X11_see rfl (by decide +kernel) rfl t77 rfl rfl rfl rfl dL_law_701 (k_m_X11_see X.1.2.1 X.2.1 (g_n X) (g_T X) (g_ag_sub hA (by decide +kernel)) (xs (x3 + (1 : Int32)).toNatClampNeg) q134.2 a ha)) (fun q136 => ?_)
                                            refine G_icmp_eq C dL_law_704 (tgt := 975) (by decide) (fun c137 => ?_) (fun c137 => ?_)
                                            · exact w_m_law_975 C q hA S (m_law_18 xs L N fu) ih N x3 q136.2
                                            · refine G_iconst C dL_law_707 (v := 0) (by decide +kernel) ?_
                                              exact G_none
                                          · refine G_ite (fun e138 => ?_) (fun e138 => ?_)
                                            · refine G_tsIn C dL_law_32 e138 (off := 677) (tgt := 709) (by decide +kernel) ?_
                                              refine G_aload_n C dL_law_709 rfl 1 rfl ?_
                                              refine G_aload_n C dL_law_710 rfl 0 rfl ?_
                                              refine G_iload_n C dL_law_711 rfl 3 rfl ?_
                                              refine G_iconst C dL_law_712 (v := 1) (by decide +kernel) ?_
                                              refine G_iadd C dL_law_713 ?_
                                              refine G_chk (fun h139 => ?_)
                                              refine G_sld C S h139 dL_law_714 ?_
                                              refine G_callI (rest := []) (fun a ha => g_runV C (nargs := 1) (As := [.int (xs (x3 + (1 : Int32)).toNatClampNeg)]) (rest := []) gl_X10_belief rfl (by decide +kernel) rfl t0 rfl rfl rfl rfl dL_law_715 (k_m_X10_belief X.1.2.1 X.2.1 (g_n X) (g_T X) (g_ag_sub hA (by decide +kernel)) N (xs (x3 + (1 : Int32)).toNatClampNeg) σ a ha)) (fun q140 => ?_)
                                              refine G_aload_n C dL_law_718 rfl 2 rfl ?_
                                              refine G_aload_n C dL_law_719 rfl 0 rfl ?_
                                              refine G_iload_n C dL_law_720 rfl 3 rfl ?_
                                              refine G_iconst C dL_law_721 (v := 1) (by decide +kernel) ?_
                                              refine G_iadd C dL_law_722 ?_
                                              refine G_chk (fun h141 => ?_)
                                              refine G_sld C S h141 dL_law_723 ?_
                                              refine G_callI (rest := [.int q140.1]) (fun a ha => g_runV C (nargs := 1) (As := [.int (xs (x3 + (1 : Int32)).toNatClampNeg)]) (rest := [.int q140.1]) gl_X11_belief rfl (by decide +kernel) rfl t77 rfl rfl rfl rfl dL_law_724 (k_m_X11_belief X.1.2.1 X.2.1 (g_n X) (g_T X) (g_ag_sub hA (by decide +kernel)) N (xs (x3 + (1 : Int32)).toNatClampNeg) q140.2 a ha)) (fun q142 => ?_)
                                              refine G_icmp_eq C dL_law_727 (tgt := 975) (by decide) (fun c143 => ?_) (fun c143 => ?_)
                                              · exact w_m_law_975 C q hA S (m_law_18 xs L N fu) ih N x3 q142.2
                                              · refine G_iconst C dL_law_730 (v := 0) (by decide +kernel) ?_
                                                exact G_none
                                            · refine G_ite (fun e144 => ?_) (fun e144 => ?_)
                                              · refine G_tsIn C dL_law_32 e144 (off := 700) (tgt := 732) (by decide +kernel) ?_
                                                refine G_aload_n C dL_law_732 rfl 1 rfl ?_
                                                refine G_callI (rest := []) (fun a ha => g_runV C (nargs := 0) (As := []) (rest := []) gl_X10_likeliest rfl (by decide +kernel) rfl t0 rfl rfl rfl rfl dL_law_733 (k_m_X10_likeliest X.1.2.1 X.2.1 (g_n X) (g_T X) (g_ag_sub hA (by decide +kernel)) N σ a ha)) (fun q145 => ?_)
                                                refine G_aload_n C dL_law_736 rfl 2 rfl ?_
                                                refine G_callI (rest := [.int q145.1]) (fun a ha => g_runV C (nargs := 0) (As := []) (rest := [.int q145.1]) gl_X11_likeliest rfl (by decide +kernel) rfl t77 rfl rfl rfl rfl dL_law_737 (k_m_X11_likeliest X.1.2.1 X.2.1 (g_n X) (g_T X) (g_ag_sub hA (by decide +kernel)) N q145.2 a ha)) (fun q146 => ?_)
                                                refine G_icmp_eq C dL_law_740 (tgt := 975) (by decide) (fun c147 => ?_) (fun c147 => ?_)
                                                · exact w_m_law_975 C q hA S (m_law_18 xs L N fu) ih N x3 q146.2
                                                · refine G_iconst C dL_law_743 (v := 0) (by decide +kernel) ?_
                                                  exact G_none
                                              · refine G_ite (fun e148 => ?_) (fun e148 => ?_)
                                                · refine G_tsIn C dL_law_32 e148 (off := 713) (tgt := 745) (by decide +kernel) ?_
                                                  refine G_aload_n C dL_law_745 rfl 1 rfl ?_
                                                  refine G_aload_n C dL_law_746 rfl 0 rfl ?_
                                                  refine G_iload_n C dL_law_747 rfl 3 rfl ?_
                                                  refine G_iconst C dL_law_748 (v := 1) (by decide +kernel) ?_
                                                  refine G_iadd C dL_law_749 ?_
                                                  refine G_chk (fun h149 => ?_)
                                                  refine G_sld C S h149 dL_law_750 ?_
                                                  refine G_aload_n C dL_law_751 rfl 0 rfl ?_
                                                  refine G_iload_n C dL_law_752 rfl 3 rfl ?_
                                                  refine G_iconst C dL_law_753 (v := 2) (by decide +kernel) ?_
                                                  refine G_iadd C dL_law_754 ?_
                                                  refine G_chk (fun h150 => ?_)
                                                  refine G_sld C S h150 dL_law_755 ?_
                                                  refine G_callI (rest := []) (fun a ha => g_runV C (nargs := 2) (As := [.int (xs (x3 + (1 : Int32)).toNatClampNeg), .int (xs (x3 + (2 : Int32)).toNatClampNeg)]) (rest := []) gl_X10_candles rfl (by decide +kernel) rfl t0 rfl rfl rfl rfl dL_law_756 (k_m_X10_candles X.1.2.1 X.2.1 (g_n X) (g_T X) (g_ag_sub hA (by decide +kernel)) (xs (x3 + (1 : Int32)).toNatClampNeg) (xs (x3 + (2 : Int32)).toNatClampNeg) σ a ha)) (fun q151 => ?_)
                                                  refine G_aload_n C dL_law_759 rfl 2 rfl ?_
                                                  refine G_aload_n C dL_law_760 rfl 0 rfl ?_
                                                  refine G_iload_n C dL_law_761 rfl 3 rfl ?_
                                                  refine G_iconst C dL_law_762 (v := 1) (by decide +kernel) ?_
                                                  refine G_iadd C dL_law_763 ?_
                                                  refine G_chk (fun h152 => ?_)
                                                  refine G_sld C S h152 dL_law_764 ?_
                                                  refine G_aload_n C dL_law_765 rfl 0 rfl ?_
                                                  refine G_iload_n C dL_law_766 rfl 3 rfl ?_
                                                  refine G_iconst C dL_law_767 (v := 2) (by decide +kernel) ?_
                                                  refine G_iadd C dL_law_768 ?_
                                                  refine G_chk (fun h153 => ?_)
                                                  refine G_sld C S h153 dL_law_769 ?_
                                                  refine G_callI (rest := [.int q151.1]) (fun a ha => g_runV C (nargs := 2) (As := [.int (xs (x3 + (1 : Int32)).toNatClampNeg), .int (xs (x3 + (2 : Int32)).toNatClampNeg)]) (rest := [.int q151.1]) gl_X11_candles rfl (by decide +kernel) rfl t77 rfl rfl rfl rfl dL_law_770 (k_m_X11_candles X.1.2.1 X.2.1 (g_n X) (g_T X) (g_ag_sub hA (by decide +kernel)) (xs (x3 + (1 : Int32)).toNatClampNeg) (xs (x3 + (2 : Int32)).toNatClampNeg) q151.2 a ha)) (fun q154 => ?_)
                                                  refine G_icmp_eq C dL_law_773 (tgt := 975) (by decide) (fun c155 => ?_) (fun c155 => ?_)
                                                  · exact w_m_law_975 C q hA S (m_law_18 xs L N fu) ih N x3 q154.2
                                                  · refine G_iconst C dL_law_776 (v := 0) (by decide +kernel) ?_
                                                    exact G_none
                                                · refine G_ite (fun e156 => ?_) (fun e156 => ?_)
                                                  · refine G_tsIn C dL_law_32 e156 (off := 746) (tgt := 778) (by decide +kernel) ?_
                                                    refine G_aload_n C dL_law_778 rfl 1 rfl ?_
                                                    refine G_aload_n C dL_law_779 rfl 0 rfl ?_
                                                    refine G_iload_n C dL_law_780 rfl 3 rfl ?_
                                                    refine G_iconst C dL_law_781 (v := 1) (by decide +kernel) ?_
                                                    refine G_iadd C dL_law_782 ?_
                                                    refine G_chk (fun h157 => ?_)
                                                    refine G_sld C S h157 dL_law_783 ?_
                                                    refine G_aload_n C dL_law_784 rfl 0 rfl ?_
                                                    refine G_iload_n C dL_law_785 rfl 3 rfl ?_
                                                    refine G_iconst C dL_law_786 (v := 2) (by decide +kernel) ?_
                                                    refine G_iadd C dL_law_787 ?_
                                                    refine G_chk (fun h158 => ?_)
                                                    refine G_sld C S h158 dL_law_788 ?_
                                                    refine G_callI (rest := []) (fun a ha => g_runV C (nargs := 2) (As := [.int (xs (x3 + (1 : Int32)).toNatClampNeg), .int (xs (x3 + (2 : Int32)).toNatClampNeg)]) (rest := []) gl_X10_rows rfl (by decide +kernel) rfl t0 rfl rfl rfl rfl dL_law_789 (k_m_X10_rows X.1.2.1 X.2.1 (g_n X) (g_T X) (g_ag_sub hA (by decide +kernel)) N (xs (x3 + (1 : Int32)).toNatClampNeg) (xs (x3 + (2 : Int32)).toNatClampNeg) σ a ha)) (fun q159 => ?_)
                                                    refine G_aload_n C dL_law_792 rfl 2 rfl ?_
                                                    refine G_aload_n C dL_law_793 rfl 0 rfl ?_
                                                    refine G_iload_n C dL_law_794 rfl 3 rfl ?_
                                                    refine G_iconst C dL_law_795 (v := 1) (by decide +kernel) ?_
                                                    refine G_iadd C dL_law_796 ?_
                                                    refine G_chk (fun h160 => ?_)
                                                    refine G_sld C S h160 dL_law_797 ?_
                                                    refine G_aload_n C dL_law_798 rfl 0 rfl ?_
                                                    refine G_iload_n C dL_law_799 rfl 3 rfl ?_
                                                    refine G_iconst C dL_law_800 (v := 2) (by decide +kernel) ?_
                                                    refine G_iadd C dL_law_801 ?_
                                                    refine G_chk (fun h161 => ?_)
                                                    refine G_sld C S h161 dL_law_802 ?_
                                                    refine G_callI (rest := [.int q159.1]) (fun a ha => g_runV C (nargs := 2) (As := [.int (xs (x3 + (1 : Int32)).toNatClampNeg), .int (xs (x3 + (2 : Int32)).toNatClampNeg)]) (rest := [.int q159.1]) gl_X11_rows rfl (by decide +kernel) rfl t77 rfl rfl rfl rfl dL_law_803 (k_m_X11_rows X.1.2.1 X.2.1 (g_n X) (g_T X) (g_ag_sub hA (by decide +kernel)) N (xs (x3 + (1 : Int32)).toNatClampNeg) (xs (x3 + (2 : Int32)).toNatClampNeg) q159.2 a ha)) (fun q162 => ?_)
                                                    refine G_icmp_eq C dL_law_806 (tgt := 975) (by decide) (fun c163 => ?_) (fun c163 => ?_)
                                                    · exact w_m_law_975 C q hA S (m_law_18 xs L N fu) ih N x3 q162.2
                                                    · refine G_iconst C dL_law_809 (v := 0) (by decide +kernel) ?_
                                                      exact G_none
                                                  · refine G_ite (fun e164 => ?_) (fun e164 => ?_)
                                                    · refine G_tsIn C dL_law_32 e164 (off := 779) (tgt := 811) (by decide +kernel) ?_
                                                      refine G_aload_n C dL_law_811 rfl 1 rfl ?_
                                                      refine G_aload_n C dL_law_812 rfl 0 rfl ?_
                                                      refine G_iload_n C dL_law_813 rfl 3 rfl ?_
                                                      refine G_iconst C dL_law_814 (v := 1) (by decide +kernel) ?_
                                                      refine G_iadd C dL_law_815 ?_
                                                      refine G_chk (fun h165 => ?_)
                                                      refine G_sld C S h165 dL_law_816 ?_
                                                      refine G_callI (rest := []) (fun a ha => g_runV C (nargs := 1) (As := [.int (xs (x3 + (1 : Int32)).toNatClampNeg)]) (rest := []) gl_X10_sure rfl (by decide +kernel) rfl t0 rfl rfl rfl rfl dL_law_817 (k_m_X10_sure X.1.2.1 X.2.1 (g_n X) (g_T X) (g_ag_sub hA (by decide +kernel)) N (xs (x3 + (1 : Int32)).toNatClampNeg) σ a ha)) (fun q166 => ?_)
                                                      refine G_aload_n C dL_law_820 rfl 2 rfl ?_
                                                      refine G_aload_n C dL_law_821 rfl 0 rfl ?_
                                                      refine G_iload_n C dL_law_822 rfl 3 rfl ?_
                                                      refine G_iconst C dL_law_823 (v := 1) (by decide +kernel) ?_
                                                      refine G_iadd C dL_law_824 ?_
                                                      refine G_chk (fun h167 => ?_)
                                                      refine G_sld C S h167 dL_law_825 ?_
                                                      refine G_callI (rest := [.int q166.1]) (fun a ha => g_runV C (nargs := 1) (As := [.int (xs (x3 + (1 : Int32)).toNatClampNeg)]) (rest := [.int q166.1]) gl_X11_sure rfl (by decide +kernel) rfl t77 rfl rfl rfl rfl dL_law_826 (k_m_X11_sure X.1.2.1 X.2.1 (g_n X) (g_T X) (g_ag_sub hA (by decide +kernel)) N (xs (x3 + (1 : Int32)).toNatClampNeg) q166.2 a ha)) (fun q168 => ?_)
                                                      refine G_icmp_eq C dL_law_829 (tgt := 975) (by decide) (fun c169 => ?_) (fun c169 => ?_)
                                                      · exact w_m_law_975 C q hA S (m_law_18 xs L N fu) ih N x3 q168.2
                                                      · refine G_iconst C dL_law_832 (v := 0) (by decide +kernel) ?_
                                                        exact G_none
                                                    · refine G_ite (fun e170 => ?_) (fun e170 => ?_)
                                                      · refine G_tsIn C dL_law_32 e170 (off := 802) (tgt := 834) (by decide +kernel) ?_
                                                        refine G_aload_n C dL_law_834 rfl 1 rfl ?_
                                                        refine G_aload_n C dL_law_835 rfl 0 rfl ?_
                                                        refine G_iload_n C dL_law_836 rfl 3 rfl ?_
                                                        refine G_iconst C dL_law_837 (v := 1) (by decide +kernel) ?_
                                                        refine G_iadd C dL_law_838 ?_
                                                        refine G_chk (fun h171 => ?_)
                                                        refine G_sld C S h171 dL_law_839 ?_
                                                        refine G_callI (rest := []) (fun a ha => g_runV C (nargs := 1) (As := [.int (xs (x3 + (1 : Int32)).toNatClampNeg)]) (rest := []) gl_X10_write rfl (by decide +kernel) rfl t0 rfl rfl rfl rfl dL_law_840 (k_m_X10_write X.1.2.1 X.2.1 (g_n X) (g_T X) (g_ag_sub hA (by decide +kernel)) (xs (x3 + (1 : Int32)).toNatClampNeg) σ a ha)) (fun q172 => ?_)
                                                        refine G_aload_n C dL_law_843 rfl 2 rfl ?_
                                                        refine G_aload_n C dL_law_844 rfl 0 rfl ?_
                                                        refine G_iload_n C dL_law_845 rfl 3 rfl ?_
                                                        refine G_iconst C dL_law_846 (v := 1) (by decide +kernel) ?_
                                                        refine G_iadd C dL_law_847 ?_
                                                        refine G_chk (fun h173 => ?_)
                                                        refine G_sld C S h173 dL_law_848 ?_
                                                        refine G_callI (rest := [.int q172.1]) (fun a ha => g_runV C (nargs := 1) (As := [.int (xs (x3 + (1 : Int32)).toNatClampNeg)]) (rest := [.int q172.1]) gl_X11_write rfl (by decide +kernel) rfl t77 rfl rfl rfl rfl dL_law_849 (k_m_X11_write X.1.2.1 X.2.1 (g_n X) (g_T X) (g_ag_sub hA (by decide +kernel)) (xs (x3 + (1 : Int32)).toNatClampNeg) q172.2 a ha)) (fun q174 => ?_)
                                                        refine G_icmp_eq C dL_law_852 (tgt := 975) (by decide) (fun c175 => ?_) (fun c175 => ?_)
                                                        · exact w_m_law_975 C q hA S (m_law_18 xs L N fu) ih N x3 q174.2
                                                        · refine G_iconst C dL_law_855 (v := 0) (by decide +kernel) ?_
                                                          exact G_none
                                                      · refine G_ite (fun e176 => ?_) (fun e176 => ?_)
                                                        · refine G_tsIn C dL_law_32 e176 (off := 825) (tgt := 857) (by decide +kernel) ?_
                                                          refine G_aload_n C dL_law_857 rfl 1 rfl ?_
                                                          refine G_callI (rest := []) (fun a ha => g_runV C (nargs := 0) (As := []) (rest := []) gl_X10_judge rfl (by decide +kernel) rfl t0 rfl rfl rfl rfl dL_law_858 (k_m_X10_judge X.1.2.1 X.2.1 (g_n X) (g_T X) (g_ag_sub hA (by decide +kernel)) N σ a ha)) (fun q177 => ?_)
                                                          refine G_aload_n C dL_law_861 rfl 2 rfl ?_
                                                          refine G_callI (rest := [.int q177.1]) (fun a ha => g_runV C (nargs := 0) (As := []) (rest := [.int q177.1]) gl_X11_judge rfl (by decide +kernel) rfl t77 rfl rfl rfl rfl dL_law_862 (k_m_X11_judge X.1.2.1 X.2.1 (g_n X) (g_T X) (g_ag_sub hA (by decide +kernel)) N q177.2 a ha)) (fun q178 => ?_)
                                                          refine G_icmp_eq C dL_law_865 (tgt := 975) (by decide) (fun c179 => ?_) (fun c179 => ?_)
                                                          · exact w_m_law_975 C q hA S (m_law_18 xs L N fu) ih N x3 q178.2
                                                          · refine G_iconst C dL_law_868 (v := 0) (by decide +kernel) ?_
                                                            exact G_none
                                                        · refine G_ite (fun e180 => ?_) (fun e180 => ?_)
                                                          · refine G_tsIn C dL_law_32 e180 (off := 838) (tgt := 870) (by decide +kernel) ?_
                                                            refine G_aload_n C dL_law_870 rfl 1 rfl ?_
                                                            refine G_aload_n C dL_law_871 rfl 0 rfl ?_
                                                            refine G_iload_n C dL_law_872 rfl 3 rfl ?_
                                                            refine G_iconst C dL_law_873 (v := 1) (by decide +kernel) ?_
                                                            refine G_iadd C dL_law_874 ?_
                                                            refine G_chk (fun h181 => ?_)
                                                            refine G_sld C S h181 dL_law_875 ?_
                                                            refine G_callI (rest := []) (fun a ha => g_runV C (nargs := 1) (As := [.int (xs (x3 + (1 : Int32)).toNatClampNeg)]) (rest := []) gl_X10_ageBy rfl (by decide +kernel) rfl t0 rfl rfl rfl rfl dL_law_876 (k_m_X10_ageBy X.1.2.1 X.2.1 (g_n X) (g_T X) (g_ag_sub hA (by decide +kernel)) N (xs (x3 + (1 : Int32)).toNatClampNeg) σ a ha)) (fun q182 => ?_)
                                                            refine G_aload_n C dL_law_879 rfl 2 rfl ?_
                                                            refine G_aload_n C dL_law_880 rfl 0 rfl ?_
                                                            refine G_iload_n C dL_law_881 rfl 3 rfl ?_
                                                            refine G_iconst C dL_law_882 (v := 1) (by decide +kernel) ?_
                                                            refine G_iadd C dL_law_883 ?_
                                                            refine G_chk (fun h183 => ?_)
                                                            refine G_sld C S h183 dL_law_884 ?_
                                                            refine G_callI (rest := [.int q182.1]) (fun a ha => g_runV C (nargs := 1) (As := [.int (xs (x3 + (1 : Int32)).toNatClampNeg)]) (rest := [.int q182.1]) gl_X11_ageBy rfl (by decide +kernel) rfl t77 rfl rfl rfl rfl dL_law_885 (k_m_X11_ageBy X.1.2.1 X.2.1 (g_n X) (g_T X) (g_ag_sub hA (by decide +kernel)) N (xs (x3 + (1 : Int32)).toNatClampNeg) q182.2 a ha)) (fun q184 => ?_)
                                                            refine G_icmp_eq C dL_law_888 (tgt := 975) (by decide) (fun c185 => ?_) (fun c185 => ?_)
                                                            · exact w_m_law_975 C q hA S (m_law_18 xs L N fu) ih N x3 q184.2
                                                            · refine G_iconst C dL_law_891 (v := 0) (by decide +kernel) ?_
                                                              exact G_none
                                                          · refine G_ite (fun e186 => ?_) (fun e186 => ?_)
                                                            · refine G_tsIn C dL_law_32 e186 (off := 861) (tgt := 893) (by decide +kernel) ?_
                                                              refine G_aload_n C dL_law_893 rfl 1 rfl ?_
                                                              refine G_callI (rest := []) (fun a ha => g_runV C (nargs := 0) (As := []) (rest := []) gl_X10_tear rfl (by decide +kernel) rfl t0 rfl rfl rfl rfl dL_law_894 (k_m_X10_tear X.1.2.1 X.2.1 (g_n X) (g_T X) (g_ag_sub hA (by decide +kernel)) σ a ha)) (fun q187 => ?_)
                                                              refine G_aload_n C dL_law_897 rfl 2 rfl ?_
                                                              refine G_callI (rest := [.int q187.1]) (fun a ha => g_runV C (nargs := 0) (As := []) (rest := [.int q187.1]) gl_X11_tear rfl (by decide +kernel) rfl t77 rfl rfl rfl rfl dL_law_898 (k_m_X11_tear X.1.2.1 X.2.1 (g_n X) (g_T X) (g_ag_sub hA (by decide +kernel)) N q187.2 a ha)) (fun q188 => ?_)
                                                              refine G_icmp_eq C dL_law_901 (tgt := 975) (by decide) (fun c189 => ?_) (fun c189 => ?_)
                                                              · exact w_m_law_975 C q hA S (m_law_18 xs L N fu) ih N x3 q188.2
                                                              · refine G_iconst C dL_law_904 (v := 0) (by decide +kernel) ?_
                                                                exact G_none
                                                            · refine G_ite (fun e190 => ?_) (fun e190 => ?_)
                                                              · refine G_tsIn C dL_law_32 e190 (off := 874) (tgt := 906) (by decide +kernel) ?_
                                                                refine G_aload_n C dL_law_906 rfl 1 rfl ?_
                                                                refine G_aload_n C dL_law_907 rfl 0 rfl ?_
                                                                refine G_iload_n C dL_law_908 rfl 3 rfl ?_
                                                                refine G_iconst C dL_law_909 (v := 1) (by decide +kernel) ?_
                                                                refine G_iadd C dL_law_910 ?_
                                                                refine G_chk (fun h191 => ?_)
                                                                refine G_sld C S h191 dL_law_911 ?_
                                                                refine G_callI (rest := []) (fun a ha => g_runV C (nargs := 1) (As := [.int (xs (x3 + (1 : Int32)).toNatClampNeg)]) (rest := []) gl_X10_seed rfl (by decide +kernel) rfl t0 rfl rfl rfl rfl dL_law_912 (k_m_X10_seed X.1.2.1 X.2.1 (g_n X) (g_T X) (g_ag_sub hA (by decide +kernel)) (xs (x3 + (1 : Int32)).toNatClampNeg) σ a ha)) (fun q192 => ?_)
                                                                refine G_aload_n C dL_law_915 rfl 2 rfl ?_
                                                                refine G_aload_n C dL_law_916 rfl 0 rfl ?_
                                                                refine G_iload_n C dL_law_917 rfl 3 rfl ?_
                                                                refine G_iconst C dL_law_918 (v := 1) (by decide +kernel) ?_
                                                                refine G_iadd C dL_law_919 ?_
                                                                refine G_chk (fun h193 => ?_)
                                                                refine G_sld C S h193 dL_law_920 ?_
                                                                refine G_callI (rest := [.int q192.1]) (fun a ha => g_runV C (nargs := 1) (As := [.int (xs (x3 + (1 : Int32)).toNatClampNeg)]) (rest := [.int q192.1]) gl_X11_seed rfl (by decide +kernel) rfl t77 rfl rfl rfl rfl dL_law_921 (k_m_X11_seed X.1.2.1 X.2.1 (g_n X) (g_T X) (g_ag_sub hA (by decide +kernel)) (xs (x3 + (1 : Int32)).toNatClampNeg) q192.2 a ha)) (fun q194 => ?_)
                                                                refine G_icmp_eq C dL_law_924 (tgt := 975) (by decide) (fun c195 => ?_) (fun c195 => ?_)
                                                                · exact w_m_law_975 C q hA S (m_law_18 xs L N fu) ih N x3 q194.2
                                                                · refine G_iconst C dL_law_927 (v := 0) (by decide +kernel) ?_
                                                                  exact G_none
                                                              · refine G_ite (fun e196 => ?_) (fun e196 => ?_)
                                                                · refine G_tsIn C dL_law_32 e196 (off := 897) (tgt := 929) (by decide +kernel) ?_
                                                                  refine G_aload_n C dL_law_929 rfl 1 rfl ?_
                                                                  refine G_aload_n C dL_law_930 rfl 0 rfl ?_
                                                                  refine G_iload_n C dL_law_931 rfl 3 rfl ?_
                                                                  refine G_iconst C dL_law_932 (v := 1) (by decide +kernel) ?_
                                                                  refine G_iadd C dL_law_933 ?_
                                                                  refine G_chk (fun h197 => ?_)
                                                                  refine G_sld C S h197 dL_law_934 ?_
                                                                  refine G_callI (rest := []) (fun a ha => g_runV C (nargs := 1) (As := [.int (xs (x3 + (1 : Int32)).toNatClampNeg)]) (rest := []) gl_X10_keep rfl (by decide +kernel) rfl t0 rfl rfl rfl rfl dL_law_935 (k_m_X10_keep X.1.2.1 X.2.1 (g_n X) (g_T X) (g_ag_sub hA (by decide +kernel)) (xs (x3 + (1 : Int32)).toNatClampNeg) σ a ha)) (fun q198 => ?_)
                                                                  refine G_aload_n C dL_law_938 rfl 2 rfl ?_
                                                                  refine G_aload_n C dL_law_939 rfl 0 rfl ?_
                                                                  refine G_iload_n C dL_law_940 rfl 3 rfl ?_
                                                                  refine G_iconst C dL_law_941 (v := 1) (by decide +kernel) ?_
                                                                  refine G_iadd C dL_law_942 ?_
                                                                  refine G_chk (fun h199 => ?_)
                                                                  refine G_sld C S h199 dL_law_943 ?_
                                                                  refine G_callI (rest := [.int q198.1]) (fun a ha => g_runV C (nargs := 1) (As := [.int (xs (x3 + (1 : Int32)).toNatClampNeg)]) (rest := [.int q198.1]) gl_X11_keep rfl (by decide +kernel) rfl t77 rfl rfl rfl rfl dL_law_944 (k_m_X11_keep X.1.2.1 X.2.1 (g_n X) (g_T X) (g_ag_sub hA (by decide +kernel)) N (xs (x3 + (1 : Int32)).toNatClampNeg) q198.2 a ha)) (fun q200 => ?_)
                                                                  refine G_icmp_eq C dL_law_947 (tgt := 975) (by decide) (fun c201 => ?_) (fun c201 => ?_)
                                                                  · exact w_m_law_975 C q hA S (m_law_18 xs L N fu) ih N x3 q200.2
                                                                  · refine G_iconst C dL_law_950 (v := 0) (by decide +kernel) ?_
                                                                    exact G_none
                                                                · refine G_ite (fun e202 => ?_) (fun e202 => ?_)
                                                                  · refine G_tsIn C dL_law_32 e202 (off := 920) (tgt := 952) (by decide +kernel) ?_
                                                                    refine G_aload_n C dL_law_952 rfl 1 rfl ?_
                                                                    refine G_aload_n C dL_law_953 rfl 0 rfl ?_
                                                                    refine G_iload_n C dL_law_954 rfl 3 rfl ?_
                                                                    refine G_iconst C dL_law_955 (v := 1) (by decide +kernel) ?_
                                                                    refine G_iadd C dL_law_956 ?_
                                                                    refine G_chk (fun h203 => ?_)
                                                                    refine G_sld C S h203 dL_law_957 ?_
                                                                    refine G_callI (rest := []) (fun a ha => g_runV C (nargs := 1) (As := [.int (xs (x3 + (1 : Int32)).toNatClampNeg)]) (rest := []) gl_X10_goBack rfl (by decide +kernel) rfl t0 rfl rfl rfl rfl dL_law_958 (k_m_X10_goBack X.1.2.1 X.2.1 (g_n X) (g_T X) (g_ag_sub hA (by decide +kernel)) (xs (x3 + (1 : Int32)).toNatClampNeg) σ a ha)) (fun q204 => ?_)
                                                                    refine G_aload_n C dL_law_961 rfl 2 rfl ?_
                                                                    refine G_aload_n C dL_law_962 rfl 0 rfl ?_
                                                                    refine G_iload_n C dL_law_963 rfl 3 rfl ?_
                                                                    refine G_iconst C dL_law_964 (v := 1) (by decide +kernel) ?_
                                                                    refine G_iadd C dL_law_965 ?_
                                                                    refine G_chk (fun h205 => ?_)
                                                                    refine G_sld C S h205 dL_law_966 ?_
                                                                    refine G_callI (rest := [.int q204.1]) (fun a ha => g_runV C (nargs := 1) (As := [.int (xs (x3 + (1 : Int32)).toNatClampNeg)]) (rest := [.int q204.1]) gl_X11_goBack rfl (by decide +kernel) rfl t77 rfl rfl rfl rfl dL_law_967 (k_m_X11_goBack X.1.2.1 X.2.1 (g_n X) (g_T X) (g_ag_sub hA (by decide +kernel)) N (xs (x3 + (1 : Int32)).toNatClampNeg) q204.2 a ha)) (fun q206 => ?_)
                                                                    refine G_icmp_eq C dL_law_970 (tgt := 975) (by decide) (fun c207 => ?_) (fun c207 => ?_)
                                                                    · exact w_m_law_975 C q hA S (m_law_18 xs L N fu) ih N x3 q206.2
                                                                    · refine G_iconst C dL_law_973 (v := 0) (by decide +kernel) ?_
                                                                      exact G_none
                                                                  · refine G_tsOut C dL_law_32 (by have u0 := lv_neT e4 (a := 0) (by decide +kernel); have u1 := lv_neT e10 (a := 1) (by decide +kernel); have u2 := lv_neT e14 (a := 2) (by decide +kernel); have u3 := lv_neT e18 (a := 3) (by decide +kernel); have u4 := lv_neT e24 (a := 4) (by decide +kernel); have u5 := lv_neT e32 (a := 5) (by decide +kernel); have u6 := lv_neT e40 (a := 6) (by decide +kernel); have u7 := lv_neT e46 (a := 7) (by decide +kernel); have u8 := lv_neT e52 (a := 8) (by decide +kernel); have u9 := lv_neT e58 (a := 9) (by decide +kernel); have u10 := lv_neT e66 (a := 10) (by decide +kernel); have u11 := lv_neT e74 (a := 11) (by decide +kernel); have u12 := lv_neT e82 (a := 12) (by decide +kernel); have u13 := lv_neT e88 (a := 13) (by decide +kernel); have u14 := lv_neT e96 (a := 14) (by decide +kernel); have u15 := lv_neT e104 (a := 15) (by decide +kernel); have u16 := lv_neT e116 (a := 16) (by decide +kernel); have u17 := lv_neT e124 (a := 17) (by decide +kernel); have u18 := lv_neT e132 (a := 18) (by decide +kernel); have u19 := lv_neT e138 (a := 19) (by decide +kernel); have u20 := lv_neT e144 (a := 20) (by decide +kernel); have u21 := lv_neT e148 (a := 21) (by decide +kernel); have u22 := lv_neT e156 (a := 22) (by decide +kernel); have u23 := lv_neT e164 (a := 23) (by decide +kernel); have u24 := lv_neT e170 (a := 24) (by decide +kernel); have u25 := lv_neT e176 (a := 25) (by decide +kernel); have u26 := lv_neT e180 (a := 26) (by decide +kernel); have u27 := lv_neT e186 (a := 27) (by decide +kernel); have u28 := lv_neT e190 (a := 28) (by decide +kernel); have u29 := lv_neT e196 (a := 29) (by decide +kernel); have u30 := lv_neT e202 (a := 30) (by decide +kernel); omega) (tgt := 975) (by decide) ?_
                                                                    exact w_m_law_975 C q hA S (m_law_18 xs L N fu) ih N x3 σ
