/-! sell -/
def mn9 (a : Nat) : Nat := if a < 9999 then a else 9999
theorem mn9_le (a : Nat) : mn9 a ≤ 9999 := by unfold mn9; split <;> omega
abbrev soldC (v : Nw) (t p : Nat) : Nat → Nat := va_up (va_up (nC v) (nH v t) (mn9 (nC v (nH v t) + nP v t))) p (nC v p - nP v t)
abbrev sold (v : Nw) (t p : Nat) : Nw := vHC v (va_up (nH v) t p) (soldC v t p)
theorem c_sell_ok {d : Dt} {σ : g_St} {t p : Nat} (ok : OK d) (h : CC d σ) (ht : t < tK (dT d)) (hp : p < tP (dT d)) (h1 : nH (dN d) t ≠ p) (h2 : nL (dN d) t = none) (h3 : nP (dN d) t ≤ nC (dN d) p) : ∃ τ, m_X10_sell (nI t) (nI p) σ = some (nI (nC (dN d) p - nP (dN d) t), τ) ∧ CC (dsN d (sold (dN d) t p)) τ ∧ keepR σ τ := by
  have hP6 : tP (dT d) ≤ 6 := ok.1.1
  have hK8 : tK (dT d) ≤ 8 := ok.1.2.1
  have hin : g_in (nI t) (tK (dT d)) := a_in ht (by omega)
  have hi8 : g_in (nI t) 8 := a_in (by omega) (by omega)
  have hc : (nI t).toNatClampNeg = t := nI_clamp (by omega)
  have hinp : g_in (nI p) (tP (dT d)) := a_in hp (by omega)
  have hip6 : g_in (nI p) 6 := a_in (by omega) (by omega)
  have hcp : (nI p).toNatClampNeg = p := nI_clamp (by omega)
  obtain ⟨⟨a1, a2, a3⟩, b2, b3, b4⟩ := h
  obtain ⟨s1, s2, s3⟩ := ok.2.1.2.2.2.2.2 t ht
  have hcoin := (ok.2.1.2.2.2.2.1 p hp).2
  obtain ⟨c1, c2, c3⟩ := a2.2.2.2.2 t ht
  generalize hs : nH (dN d) t = s at *
  have hcs := (ok.2.1.2.2.2.2.1 s s1).2
  have his : g_in (nI s) (tP (dT d)) := a_in s1 (by omega)
  have his6 : g_in (nI s) 6 := a_in (by omega) (by omega)
  have hcls : (nI s).toNatClampNeg = s := nI_clamp (by omega)
  have em : (if nI (nC (dN d) s + nP (dN d) t) < (9999 : Int32) then nI (nC (dN d) s + nP (dN d) t) else (9999 : Int32)) = nI (mn9 (nC (dN d) s + nP (dN d) t)) := by
    unfold mn9
    by_cases q : nC (dN d) s + nP (dN d) t < 9999
    · rw [if_pos q, if_pos (show nI (nC (dN d) s + nP (dN d) t) < (9999 : Int32) from a_lt 9999 q (by omega))]
    · rw [if_neg q, if_neg (show ¬ nI (nC (dN d) s + nP (dN d) t) < (9999 : Int32) from a_nlt 9999 (by omega) (by omega))]; rfl
  refine ⟨g_sI (g_sI (g_sI σ 18 p (nI (nC (dN d) p - nP (dN d) t))) 18 s (nI (mn9 (nC (dN d) s + nP (dN d) t)))) 19 t (nI p), ?_, ⟨⟨CT_k a1 (fun c _ _ => by simp (disch := omega) only [sI_o, sI_k, sI_n, sA_o, sA_s, sI_2, sA_2, sL_1, sL_o]), ?_, (by simp (disch := omega) only [sI_o, sI_k, sI_n, sA_o, sA_s, sI_2, sA_2, sL_1, sL_o]; exact a3)⟩, CCu_k b2 rfl rfl (fun c _ _ => by simp (disch := omega) only [sI_o, sI_k, sI_n, sA_o, sA_s, sI_2, sA_2, sL_1, sL_o]), CCk_k b3 rfl rfl (fun c _ _ => by simp (disch := omega) only [sI_o, sI_k, sI_n, sA_o, sA_s, sI_2, sA_2, sL_1, sL_o]), CCs_k b4 rfl (fun c _ _ => by simp (disch := omega) only [sI_o, sI_k, sI_n, sA_o, sA_s, sI_2, sA_2, sL_1, sL_o])⟩, keepR_tr (keepR_I (by omega)) (keepR_tr (keepR_I (by omega)) (keepR_I (by omega)))⟩
  · unfold m_X10_sell m_X10_sell_124 g_lt
    rw [c_isT (nI t) a1.2.1 (by omega), Option.bind_some]
    dsimp only
    rw [if_pos hin, if_neg n10, c_isP (nI p) a1.1 (by omega), Option.bind_some]
    dsimp only
    rw [if_pos hinp, if_neg n10, if_pos hi8, hc, c1]
    simp only [if_pos hi8, if_neg (a_ne p h1 (by omega) (by omega)), c2, h2, show plv none = -1 from rfl, if_true, if_pos hip6, hcp, c3, (a2.2.2.2.1 p hp).2, if_pos (a_le (a := nP (dN d) t) (nC (dN d) p) h3 (by omega)), pk_sub h3]
    rw [c_isP (P := tP (dT d)) (nI s) (by simp (disch := omega) only [sI_o, sI_k, sI_n, sA_o, sA_s, sI_2, sA_2, sL_1, sL_o]; exact a1.1) (by omega), Option.bind_some]
    dsimp only
    rw [if_pos his, if_neg n10, if_pos his6, hcls]
    simp only [if_pos his6]
    simp (disch := omega) only [sI_o, sI_k, sI_n, sA_o, sA_s, sI_2, sA_2, sL_1, sL_o]
    rw [(a2.2.2.2.1 s s1).2, nI_add, em]
  · obtain ⟨d1, d2, d3, d4, d5⟩ := a2
    unfold CN
    simp (disch := omega) only [sI_o, sI_k, sI_n, sA_o, sA_s, sI_2, sA_2, sL_1, sL_o]
    refine ⟨d1, d2, d3, fun q hq => ⟨(d4 q hq).1, ?_⟩, fun r hr => ⟨?_, (d5 r hr).2.1, (d5 r hr).2.2⟩⟩
    · show _ = nI (soldC (dN d) t p q)
      unfold soldC
      rw [hs]
      by_cases e1 : q = p
      · subst e1
        rw [sI_n (Ne.symm h1), sI_k, g_up_s]
      · by_cases e2 : q = s
        · subst e2
          rw [sI_k, g_up_n _ _ e1, g_up_s]
        · rw [sI_n e2, sI_n e1, g_up_n _ _ e1, g_up_n _ _ e2]
          exact (d4 q hq).2
    · show _ = nI (va_up (nH (dN d)) t p r)
      by_cases e : r = t
      · subst e; rw [sI_k, g_up_s]
      · rw [sI_n e, g_up_n _ _ e]; exact (d5 r hr).1
theorem r_sell_ok {d : Dt} {σ : g_St} {t p : Nat} (ok : OK d) (h : RR d σ) (ht : t < tK (dT d)) (hp : p < tP (dT d)) (h1 : nH (dN d) t ≠ p) (h2 : nL (dN d) t = none) (h3 : nP (dN d) t ≤ nC (dN d) p) : ∃ τ, m_X11_sell (nI t) (nI p) σ = some (nI (nC (dN d) p - nP (dN d) t), τ) ∧ RR (dsN d (sold (dN d) t p)) τ ∧ keepC σ τ := by
  have hP6 : tP (dT d) ≤ 6 := ok.1.1
  have hK8 : tK (dT d) ≤ 8 := ok.1.2.1
  have hin : g_in (nI t) (tK (dT d)) := a_in ht (by omega)
  have hinp : g_in (nI p) (tP (dT d)) := a_in hp (by omega)
  obtain ⟨⟨a1, a2, a3⟩, b2, b3, b4⟩ := h
  obtain ⟨s1, s2, s3⟩ := ok.2.1.2.2.2.2.2 t ht
  have hcoin := (ok.2.1.2.2.2.2.1 p hp).2
  obtain ⟨c1, c2, c3⟩ := a2.2.2.2.2 t ht
  generalize hs : nH (dN d) t = s at *
  have hcs := (ok.2.1.2.2.2.2.1 s s1).2
  have ep1 : nI (15 + 3 * t) + (1 : Int32) = nI (15 + 3 * t + 1) := nI_1 _
  have ep2 : nI (15 + 3 * t) + (2 : Int32) = nI (15 + 3 * t + 2) := nI_add _ 2
  have i0 : g_in (nI (15 + 3 * t)) 39 := a_in (by omega) (by omega)
  have i1 : g_in (nI (15 + 3 * t + 1)) 39 := a_in (by omega) (by omega)
  have i2 : g_in (nI (15 + 3 * t + 2)) 39 := a_in (by omega) (by omega)
  have j1 : g_in (nI (3 + 2 * p + 1)) 39 := a_in (by omega) (by omega)
  have j2 : g_in (nI (3 + 2 * s + 1)) 39 := a_in (by omega) (by omega)
  have k0 : (nI (15 + 3 * t)).toNatClampNeg = 15 + 3 * t := nI_clamp (by omega)
  have k1 : (nI (15 + 3 * t + 1)).toNatClampNeg = 15 + 3 * t + 1 := nI_clamp (by omega)
  have k2 : (nI (15 + 3 * t + 2)).toNatClampNeg = 15 + 3 * t + 2 := nI_clamp (by omega)
  have l1 : (nI (3 + 2 * p + 1)).toNatClampNeg = 3 + 2 * p + 1 := nI_clamp (by omega)
  have l2 : (nI (3 + 2 * s + 1)).toNatClampNeg = 3 + 2 * s + 1 := nI_clamp (by omega)
  have e130 : m_X11_sell_130 (nI p) (nI (15 + 3 * t)) (nI (nP (dN d) t)) (nI (3 + 2 * s + 1)) (nI (mn9 (nC (dN d) s + nP (dN d) t))) σ = some (nI (nC (dN d) p - nP (dN d) t), g_sI (g_sI (g_sI σ 81 (3 + 2 * s + 1) (nI (mn9 (nC (dN d) s + nP (dN d) t)))) 81 (3 + 2 * p + 1) (nI (nC (dN d) p - nP (dN d) t))) 81 (15 + 3 * t) (nI p)) := by
    unfold m_X11_sell_130 g_lt
    simp only [if_pos j2, l2, e3a, if_pos j1, l1, if_pos i0, k0]
    simp (disch := omega) only [sI_o, sI_k, sI_n, sA_o, sA_s, sI_2, sA_2, sL_1, sL_o]
    rw [(a2.2.2.2.1 p hp).2, pk_sub h3]
  refine ⟨g_sI (g_sI (g_sI σ 81 (3 + 2 * s + 1) (nI (mn9 (nC (dN d) s + nP (dN d) t)))) 81 (3 + 2 * p + 1) (nI (nC (dN d) p - nP (dN d) t))) 81 (15 + 3 * t) (nI p), ?_, ⟨⟨(by simp (disch := omega) only [sI_o, sI_k, sI_n, sA_o, sA_s, sI_2, sA_2, sL_1, sL_o]; exact a1), ?_, (by simp (disch := omega) only [sI_o, sI_k, sI_n, sA_o, sA_s, sI_2, sA_2, sL_1, sL_o]; exact a3)⟩, RRu_k b2 rfl rfl (by simp (disch := omega) only [sI_o, sI_k, sI_n, sA_o, sA_s, sI_2, sA_2, sL_1, sL_o]) (by simp (disch := omega) only [sI_o, sI_k, sI_n, sA_o, sA_s, sI_2, sA_2, sL_1, sL_o]), RRk_k b3 rfl rfl (by simp (disch := omega) only [sI_o, sI_k, sI_n, sA_o, sA_s, sI_2, sA_2, sL_1, sL_o]), RRs_k b4 rfl (fun c _ _ _ => by simp (disch := omega) only [sI_o, sI_k, sI_n, sA_o, sA_s, sI_2, sA_2, sL_1, sL_o])⟩, keepC_tr (keepC_I (by omega)) (keepC_tr (keepC_I (by omega)) (keepC_I (by omega)))⟩
  · unfold m_X11_sell g_lt
    rw [r_isT (nI t) a1.2.1 (by omega), Option.bind_some]
    dsimp only
    rw [if_pos hin, if_neg n10, r_isP (nI p) a1.1 (by omega), Option.bind_some]
    dsimp only
    rw [if_pos hinp, if_neg n10]
    simp only [e15, ep1, ep2, if_pos i0, if_pos i1, if_pos i2, k0, k1, k2, c1, c2, c3, if_neg (a_ne p h1 (by omega) (by omega)), h2, show plv none = -1 from rfl, if_true, e3a, if_pos j1, l1, (a2.2.2.2.1 p hp).2, if_pos (a_le (a := nP (dN d) t) (nC (dN d) p) h3 (by omega)), if_pos j2, l2, (a2.2.2.2.1 s s1).2, nI_add]
    unfold mn9 at e130
    by_cases q : nC (dN d) s + nP (dN d) t ≤ 9999
    · rw [if_pos (show nI (nC (dN d) s + nP (dN d) t) ≤ (9999 : Int32) from a_le 9999 q (by omega))]
      have e9 : (if nC (dN d) s + nP (dN d) t < 9999 then nC (dN d) s + nP (dN d) t else 9999) = nC (dN d) s + nP (dN d) t := by split <;> omega
      unfold mn9
      rw [e9] at e130 ⊢
      exact e130
    · rw [if_neg (show ¬ nI (nC (dN d) s + nP (dN d) t) ≤ (9999 : Int32) from a_nle 9999 (by omega) (by omega))]
      have e9 : (if nC (dN d) s + nP (dN d) t < 9999 then nC (dN d) s + nP (dN d) t else 9999) = 9999 := by split <;> omega
      unfold mn9
      rw [e9] at e130 ⊢
      exact e130
  · obtain ⟨d1, d2, d3, d4, d5⟩ := a2
    refine ⟨(by simp (disch := omega) only [sI_o, sI_k, sI_n, sA_o, sA_s, sI_2, sA_2, sL_1, sL_o]; exact d1), (by simp (disch := omega) only [sI_o, sI_k, sI_n, sA_o, sA_s, sI_2, sA_2, sL_1, sL_o]; exact d2), (by simp (disch := omega) only [sI_o, sI_k, sI_n, sA_o, sA_s, sI_2, sA_2, sL_1, sL_o]; exact d3), fun q (hq : q < tP (dT d)) => ⟨(by simp (disch := omega) only [sI_o, sI_k, sI_n, sA_o, sA_s, sI_2, sA_2, sL_1, sL_o]; exact (d4 q hq).1), ?_⟩, fun r (hr : r < tK (dT d)) => ⟨?_, (by simp (disch := omega) only [sI_o, sI_k, sI_n, sA_o, sA_s, sI_2, sA_2, sL_1, sL_o]; exact (d5 r hr).2.1), (by simp (disch := omega) only [sI_o, sI_k, sI_n, sA_o, sA_s, sI_2, sA_2, sL_1, sL_o]; exact (d5 r hr).2.2)⟩⟩
    · show _ = nI (soldC (dN d) t p q)
      unfold soldC
      rw [hs, sI_n (by omega)]
      by_cases e1 : q = p
      · subst e1
        rw [sI_k, g_up_s]
      · rw [sI_n (by omega), g_up_n _ _ e1]
        by_cases e2 : q = s
        · subst e2
          rw [sI_k, g_up_s]
        · rw [sI_n (by omega), g_up_n _ _ e2]
          exact (d4 q hq).2
    · show _ = nI (va_up (nH (dN d)) t p r)
      by_cases e : r = t
      · subst e; rw [sI_k, g_up_s]
      · rw [sI_n (by omega), sI_n (by omega), sI_n (by omega), g_up_n _ _ e]; exact (d5 r hr).1
set_option maxHeartbeats 1000000 in
theorem sp_sell (x y : Int32) : Sp (m_X10_sell x y) (m_X11_sell x y) := by
  intro d ok
  have hP6 : tP (dT d) ≤ 6 := ok.1.1
  have hK8 : tK (dT d) ≤ 8 := ok.1.2.1
  rcases i_cases x (tK (dT d)) (by omega) with ⟨t, ht, rfl⟩ | hx
  · have hin : g_in (nI t) (tK (dT d)) := a_in ht (by omega)
    have hi8 : g_in (nI t) 8 := a_in (by omega) (by omega)
    have hc : (nI t).toNatClampNeg = t := nI_clamp (by omega)
    have ep1 : nI (15 + 3 * t) + (1 : Int32) = nI (15 + 3 * t + 1) := nI_1 _
    have ep2 : nI (15 + 3 * t) + (2 : Int32) = nI (15 + 3 * t + 2) := nI_add _ 2
    have i0 : g_in (nI (15 + 3 * t)) 39 := a_in (by omega) (by omega)
    have i1 : g_in (nI (15 + 3 * t + 1)) 39 := a_in (by omega) (by omega)
    have i2 : g_in (nI (15 + 3 * t + 2)) 39 := a_in (by omega) (by omega)
    have k0 : (nI (15 + 3 * t)).toNatClampNeg = 15 + 3 * t := nI_clamp (by omega)
    have k1 : (nI (15 + 3 * t + 1)).toNatClampNeg = 15 + 3 * t + 1 := nI_clamp (by omega)
    have k2 : (nI (15 + 3 * t + 2)).toNatClampNeg = 15 + 3 * t + 2 := nI_clamp (by omega)
    rcases i_cases y (tP (dT d)) (by omega) with ⟨p, hp, rfl⟩ | hy
    · have hinp : g_in (nI p) (tP (dT d)) := a_in hp (by omega)
      have hip6 : g_in (nI p) 6 := a_in (by omega) (by omega)
      have hcp : (nI p).toNatClampNeg = p := nI_clamp (by omega)
      have j1 : g_in (nI (3 + 2 * p + 1)) 39 := a_in (by omega) (by omega)
      have l1 : (nI (3 + 2 * p + 1)).toNatClampNeg = 3 + 2 * p + 1 := nI_clamp (by omega)
      obtain ⟨s1, s2, s3⟩ := ok.2.1.2.2.2.2.2 t ht
      have hcoin := (ok.2.1.2.2.2.2.1 p hp).2
      by_cases h1 : nH (dN d) t = p
      · refine ⟨-1000000003, d, ok, fun σ h => ⟨σ, ?_, h, keepR_rf σ⟩, fun σ h => ⟨σ, ?_, h, keepC_rf σ⟩⟩
        · obtain ⟨c1, c2, c3⟩ := h.1.2.1.2.2.2.2 t ht
          unfold m_X10_sell g_lt
          rw [c_isT (nI t) h.1.1.2.1 (by omega), Option.bind_some]
          dsimp only
          rw [if_pos hin, if_neg n10, c_isP (nI p) h.1.1.1 (by omega), Option.bind_some]
          dsimp only
          rw [if_pos hinp, if_neg n10, if_pos hi8, hc, c1, if_pos hi8, if_pos (by rw [h1])]
        · obtain ⟨c1, c2, c3⟩ := h.1.2.1.2.2.2.2 t ht
          unfold m_X11_sell g_lt
          rw [r_isT (nI t) h.1.1.2.1 (by omega), Option.bind_some]
          dsimp only
          rw [if_pos hin, if_neg n10, r_isP (nI p) h.1.1.1 (by omega), Option.bind_some]
          dsimp only
          rw [if_pos hinp, if_neg n10, e15, ep2, if_pos i2, if_pos i0, k0, c1, if_pos (by rw [h1])]
      · by_cases h2 : nL (dN d) t = none
        · by_cases h3 : nP (dN d) t ≤ nC (dN d) p
          · have hok : OK (dsN d (sold (dN d) t p)) := by
              obtain ⟨o1, ⟨p1, p2, p3, p4, p5, p6⟩, o3⟩ := ok
              refine ⟨o1, ⟨p1, p2, p3, p4, fun q hq => ⟨(p5 q hq).1, ?_⟩, fun r hr => ⟨?_, (p6 r hr).2.1, (p6 r hr).2.2⟩⟩, o3⟩
              · show soldC (dN d) t p q ≤ 9999
                unfold soldC
                by_cases e1 : q = p
                · subst e1; rw [g_up_s]; have := (p5 q hq).2; omega
                · rw [g_up_n _ _ e1]
                  by_cases e2 : q = nH (dN d) t
                  · rw [e2, g_up_s]; exact mn9_le _
                  · rw [g_up_n _ _ e2]; exact (p5 q hq).2
              · show va_up (nH (dN d)) t p r < tP (dT d)
                by_cases e : r = t
                · subst e; rw [g_up_s]; exact hp
                · rw [g_up_n _ _ e]; exact (p6 r hr).1
            exact ⟨nI (nC (dN d) p - nP (dN d) t), dsN d (sold (dN d) t p), hok, fun σ h => c_sell_ok ok h ht hp h1 h2 h3, fun σ h => r_sell_ok ok h ht hp h1 h2 h3⟩
          · refine ⟨-1000000003, d, ok, fun σ h => ⟨σ, ?_, h, keepR_rf σ⟩, fun σ h => ⟨σ, ?_, h, keepC_rf σ⟩⟩
            · obtain ⟨c1, c2, c3⟩ := h.1.2.1.2.2.2.2 t ht
              unfold m_X10_sell g_lt
              rw [c_isT (nI t) h.1.1.2.1 (by omega), Option.bind_some]
              dsimp only
              rw [if_pos hin, if_neg n10, c_isP (nI p) h.1.1.1 (by omega), Option.bind_some]
              dsimp only
              rw [if_pos hinp, if_neg n10, if_pos hi8, hc, c1, if_pos hi8, if_neg (a_ne p h1 (by omega) (by omega)), if_pos hi8, c2, h2, show plv none = -1 from rfl, if_pos rfl, if_pos hip6, hcp, c3, (h.1.2.1.2.2.2.1 p hp).2, if_neg (a_nle (a := nP (dN d) t) (nC (dN d) p) (by omega) (by omega))]
            · obtain ⟨c1, c2, c3⟩ := h.1.2.1.2.2.2.2 t ht
              unfold m_X11_sell g_lt
              rw [r_isT (nI t) h.1.1.2.1 (by omega), Option.bind_some]
              dsimp only
              rw [if_pos hin, if_neg n10, r_isP (nI p) h.1.1.1 (by omega), Option.bind_some]
              dsimp only
              rw [if_pos hinp, if_neg n10, e15, ep2, ep1, if_pos i2, if_pos i0, k0, c1, if_neg (a_ne p h1 (by omega) (by omega)), if_pos i1, k1, c2, h2, show plv none = -1 from rfl, if_pos rfl, e3a, if_pos j1, l1, k2, c3, (h.1.2.1.2.2.2.1 p hp).2, if_neg (a_nle (a := nP (dN d) t) (nC (dN d) p) (by omega) (by omega))]
        · have hpl : ¬ plv (nL (dN d) t) = -1 := fun q => h2 ((plv_m1 (fun q hq => by have := s2 q hq; omega)).mp q)
          refine ⟨-1000000003, d, ok, fun σ h => ⟨σ, ?_, h, keepR_rf σ⟩, fun σ h => ⟨σ, ?_, h, keepC_rf σ⟩⟩
          · obtain ⟨c1, c2, c3⟩ := h.1.2.1.2.2.2.2 t ht
            unfold m_X10_sell g_lt
            rw [c_isT (nI t) h.1.1.2.1 (by omega), Option.bind_some]
            dsimp only
            rw [if_pos hin, if_neg n10, c_isP (nI p) h.1.1.1 (by omega), Option.bind_some]
            dsimp only
            rw [if_pos hinp, if_neg n10, if_pos hi8, hc, c1, if_pos hi8, if_neg (a_ne p h1 (by omega) (by omega)), if_pos hi8, c2, if_neg hpl]
          · obtain ⟨c1, c2, c3⟩ := h.1.2.1.2.2.2.2 t ht
            unfold m_X11_sell g_lt
            rw [r_isT (nI t) h.1.1.2.1 (by omega), Option.bind_some]
            dsimp only
            rw [if_pos hin, if_neg n10, r_isP (nI p) h.1.1.1 (by omega), Option.bind_some]
            dsimp only
            rw [if_pos hinp, if_neg n10, e15, ep2, ep1, if_pos i2, if_pos i0, k0, c1, if_neg (a_ne p h1 (by omega) (by omega)), if_pos i1, k1, c2, if_neg hpl]
    · have hout : ¬ g_in y (tP (dT d)) := a_out (by omega) hy
      refine ⟨-1000000001, d, ok, fun σ h => ⟨σ, ?_, h, keepR_rf σ⟩, fun σ h => ⟨σ, ?_, h, keepC_rf σ⟩⟩
      · unfold m_X10_sell
        rw [c_isT (nI t) h.1.1.2.1 (by omega), Option.bind_some]
        dsimp only
        rw [if_pos hin, if_neg n10, c_isP y h.1.1.1 (by omega), Option.bind_some]
        dsimp only
        rw [if_neg hout, if_pos rfl]
      · unfold m_X11_sell
        rw [r_isT (nI t) h.1.1.2.1 (by omega), Option.bind_some]
        dsimp only
        rw [if_pos hin, if_neg n10, r_isP y h.1.1.1 (by omega), Option.bind_some]
        dsimp only
        rw [if_neg hout, if_pos rfl]
  · have hout : ¬ g_in x (tK (dT d)) := a_out (by omega) hx
    refine ⟨-1000000001, d, ok, fun σ h => ⟨σ, ?_, h, keepR_rf σ⟩, fun σ h => ⟨σ, ?_, h, keepC_rf σ⟩⟩
    · unfold m_X10_sell
      simp only [c_isT x h.1.1.2.1 (by omega), Option.bind_some, if_neg hout, if_true]
    · unfold m_X11_sell
      simp only [r_isT x h.1.1.2.1 (by omega), Option.bind_some, if_neg hout, if_true]
