/-! told, person, ticket, price, pawn, candles, tear -/
set_option maxHeartbeats 4000000 in
theorem sp_told (N : Nat) (hN : 8 < N) (x : Int32) : Sp (m_X10_told N x) (m_X11_told N x) := by
  refine Sp_ro (fun d ok => ?_)
  have hP6 : tP (dT d) ≤ 6 := ok.1.1
  have hK8 : tK (dT d) ≤ 8 := ok.1.2.1
  have hR1 : tR (dT d) ≤ 1 := ok.1.2.2.2.2.1
  by_cases n0 : x = 0
  · subst n0
    refine ⟨nI (tP (dT d)), fun σ h => ?_, fun σ h => ?_⟩
    · unfold m_X10_told
      rw [if_pos (show (0 : Int32) = 0 from rfl), h.1.1.1]
    · unfold m_X11_told m_X11_told_72
      rw [if_pos (show (0 : Int32) = 0 from rfl), if_pos (show g_in (0 : Int32) 45 by decide), show (0 : Int32).toNatClampNeg = 0 from rfl, h.1.1.1]
  by_cases n1 : x = 1
  · subst n1
    refine ⟨nI (tK (dT d)), fun σ h => ?_, fun σ h => ?_⟩
    · unfold m_X10_told
      rw [if_neg (show ¬ (1 : Int32) = 0 by decide), if_pos (show (1 : Int32) = 1 from rfl), h.1.1.2.1]
    · unfold m_X11_told m_X11_told_72
      rw [if_neg (show ¬ (1 : Int32) = 0 by decide), if_pos (show (1 : Int32) = 1 from rfl), if_pos (show g_in (1 : Int32) 45 by decide), show (1 : Int32).toNatClampNeg = 1 from rfl, h.1.1.2.1]
  by_cases n2 : x = 2
  · subst n2
    refine ⟨nI (dLet d).length, fun σ h => ?_, fun σ h => ?_⟩
    · unfold m_X10_told
      rw [if_neg (show ¬ (2 : Int32) = 0 by decide), if_neg (show ¬ (2 : Int32) = 1 by decide), if_pos (show (2 : Int32) = 2 from rfl), h.2.2.2.2.2.2.2.2.2.1]
    · unfold m_X11_told
      rw [if_neg (show ¬ (2 : Int32) = 0 by decide), if_neg (show ¬ (2 : Int32) = 1 by decide), if_pos (show (2 : Int32) = 2 from rfl), h.2.2.2.2.2.2.2.2.2.1]
  by_cases n3 : x = 3
  · subst n3
    refine ⟨nI (nY (dN d)), fun σ h => ?_, fun σ h => ?_⟩
    · unfold m_X10_told
      rw [if_neg (show ¬ (3 : Int32) = 0 by decide), if_neg (show ¬ (3 : Int32) = 1 by decide), if_neg (show ¬ (3 : Int32) = 2 by decide), if_pos (show (3 : Int32) = 3 from rfl), h.1.2.1.1]
    · unfold m_X11_told m_X11_told_84
      rw [if_neg (show ¬ (3 : Int32) = 0 by decide), if_neg (show ¬ (3 : Int32) = 1 by decide), if_neg (show ¬ (3 : Int32) = 2 by decide), if_pos (show (3 : Int32) = 3 from rfl), if_pos (show g_in ((3 : Int32) - 3) 39 by decide), show ((3 : Int32) - 3).toNatClampNeg = 0 from rfl, h.1.2.1.1]
  by_cases n4 : x = 4
  · subst n4
    refine ⟨nI (nD (dN d)), fun σ h => ?_, fun σ h => ?_⟩
    · unfold m_X10_told
      rw [if_neg (show ¬ (4 : Int32) = 0 by decide), if_neg (show ¬ (4 : Int32) = 1 by decide), if_neg (show ¬ (4 : Int32) = 2 by decide), if_neg (show ¬ (4 : Int32) = 3 by decide), if_pos (show (4 : Int32) = 4 from rfl), h.1.2.1.2.1]
    · unfold m_X11_told m_X11_told_84
      rw [if_neg (show ¬ (4 : Int32) = 0 by decide), if_neg (show ¬ (4 : Int32) = 1 by decide), if_neg (show ¬ (4 : Int32) = 2 by decide), if_neg (show ¬ (4 : Int32) = 3 by decide), if_pos (show (4 : Int32) = 4 from rfl), if_pos (show g_in ((4 : Int32) - 3) 39 by decide), show ((4 : Int32) - 3).toNatClampNeg = 1 from rfl, h.1.2.1.2.1]
  by_cases n5 : x = 5
  · subst n5
    refine ⟨nI (tY (dT d)), fun σ h => ?_, fun σ h => ?_⟩
    · unfold m_X10_told
      rw [if_neg (show ¬ (5 : Int32) = 0 by decide), if_neg (show ¬ (5 : Int32) = 1 by decide), if_neg (show ¬ (5 : Int32) = 2 by decide), if_neg (show ¬ (5 : Int32) = 3 by decide), if_neg (show ¬ (5 : Int32) = 4 by decide), if_pos (show (5 : Int32) = 5 from rfl), h.1.1.2.2.1]
    · unfold m_X11_told m_X11_told_93
      rw [if_neg (show ¬ (5 : Int32) = 0 by decide), if_neg (show ¬ (5 : Int32) = 1 by decide), if_neg (show ¬ (5 : Int32) = 2 by decide), if_neg (show ¬ (5 : Int32) = 3 by decide), if_neg (show ¬ (5 : Int32) = 4 by decide), if_pos (show (5 : Int32) = 5 from rfl), if_pos (show g_in ((5 : Int32) - 3) 45 by decide), show ((5 : Int32) - 3).toNatClampNeg = 2 from rfl, h.1.1.2.2.1]
  by_cases n6 : x = 6
  · subst n6
    refine ⟨nI (tR (dT d)), fun σ h => ?_, fun σ h => ?_⟩
    · unfold m_X10_told
      rw [if_neg (show ¬ (6 : Int32) = 0 by decide), if_neg (show ¬ (6 : Int32) = 1 by decide), if_neg (show ¬ (6 : Int32) = 2 by decide), if_neg (show ¬ (6 : Int32) = 3 by decide), if_neg (show ¬ (6 : Int32) = 4 by decide), if_neg (show ¬ (6 : Int32) = 5 by decide), if_pos (show (6 : Int32) = 6 from rfl), h.1.1.2.2.2.1]
      by_cases h0 : tR (dT d) = 0
      · rw [h0]; rfl
      · rw [show tR (dT d) = 1 by omega]; rfl
    · unfold m_X11_told m_X11_told_93
      rw [if_neg (show ¬ (6 : Int32) = 0 by decide), if_neg (show ¬ (6 : Int32) = 1 by decide), if_neg (show ¬ (6 : Int32) = 2 by decide), if_neg (show ¬ (6 : Int32) = 3 by decide), if_neg (show ¬ (6 : Int32) = 4 by decide), if_neg (show ¬ (6 : Int32) = 5 by decide), if_pos (show (6 : Int32) = 6 from rfl), if_pos (show g_in ((6 : Int32) - 3) 45 by decide), show ((6 : Int32) - 3).toNatClampNeg = 3 from rfl, h.1.1.2.2.2.1]
  by_cases n7 : x = 7
  · subst n7
    refine ⟨nI (nS (dN d)), fun σ h => ?_, fun σ h => ?_⟩
    · unfold m_X10_told
      rw [if_neg (show ¬ (7 : Int32) = 0 by decide), if_neg (show ¬ (7 : Int32) = 1 by decide), if_neg (show ¬ (7 : Int32) = 2 by decide), if_neg (show ¬ (7 : Int32) = 3 by decide), if_neg (show ¬ (7 : Int32) = 4 by decide), if_neg (show ¬ (7 : Int32) = 5 by decide), if_neg (show ¬ (7 : Int32) = 6 by decide), if_pos (show (7 : Int32) = 7 from rfl), h.1.2.1.2.2.1]
    · unfold m_X11_told
      rw [if_neg (show ¬ (7 : Int32) = 0 by decide), if_neg (show ¬ (7 : Int32) = 1 by decide), if_neg (show ¬ (7 : Int32) = 2 by decide), if_neg (show ¬ (7 : Int32) = 3 by decide), if_neg (show ¬ (7 : Int32) = 4 by decide), if_neg (show ¬ (7 : Int32) = 5 by decide), if_neg (show ¬ (7 : Int32) = 6 by decide), if_pos (show (7 : Int32) = 7 from rfl), h.1.2.1.2.2.1]
  by_cases n8 : x = 8
  · subst n8
    have hS : nS (dN d) < 256 := Nat.lt_of_lt_of_le ok.2.1.2.2.1 (pow8 hK8)
    refine ⟨nI (wsm (tW (dT d)) (nS (dN d)) (tK (dT d))), fun σ h => ?_, fun σ h => ?_⟩
    · unfold m_X10_told
      rw [if_neg (show ¬ (8 : Int32) = 0 by decide), if_neg (show ¬ (8 : Int32) = 1 by decide), if_neg (show ¬ (8 : Int32) = 2 by decide), if_neg (show ¬ (8 : Int32) = 3 by decide), if_neg (show ¬ (8 : Int32) = 4 by decide), if_neg (show ¬ (8 : Int32) = 5 by decide), if_neg (show ¬ (8 : Int32) = 6 by decide), if_neg (show ¬ (8 : Int32) = 7 by decide), if_pos (show (8 : Int32) = 8 from rfl), h.1.2.1.2.2.1, c_wt h.1.1.2.1 hK8 h.1.1.2.2.2.2.2 hS hN, Option.bind_some]
    · unfold m_X11_told
      rw [if_neg (show ¬ (8 : Int32) = 0 by decide), if_neg (show ¬ (8 : Int32) = 1 by decide), if_neg (show ¬ (8 : Int32) = 2 by decide), if_neg (show ¬ (8 : Int32) = 3 by decide), if_neg (show ¬ (8 : Int32) = 4 by decide), if_neg (show ¬ (8 : Int32) = 5 by decide), if_neg (show ¬ (8 : Int32) = 6 by decide), if_neg (show ¬ (8 : Int32) = 7 by decide), if_pos (show (8 : Int32) = 8 from rfl), h.1.2.1.2.2.1, r_wt h.1.1.2.1 hK8 h.1.1.2.2.2.2.2 hS hN, Option.bind_some]
  by_cases n9 : x = 9
  · subst n9
    refine ⟨nI (sprd (nA (dN d)) (tP (dT d))), fun σ h => ?_, fun σ h => ?_⟩
    · unfold m_X10_told
      rw [if_neg (show ¬ (9 : Int32) = 0 by decide), if_neg (show ¬ (9 : Int32) = 1 by decide), if_neg (show ¬ (9 : Int32) = 2 by decide), if_neg (show ¬ (9 : Int32) = 3 by decide), if_neg (show ¬ (9 : Int32) = 4 by decide), if_neg (show ¬ (9 : Int32) = 5 by decide), if_neg (show ¬ (9 : Int32) = 6 by decide), if_neg (show ¬ (9 : Int32) = 7 by decide), if_neg (show ¬ (9 : Int32) = 8 by decide), if_pos (show (9 : Int32) = 9 from rfl), h.1.1.1, c_spr hP6 (fun p hp => (h.1.2.1.2.2.2.1 p hp).1) (fun p hp => (ok.2.1.2.2.2.2.1 p hp).1) hN, Option.bind_some]
    · unfold m_X11_told
      rw [if_neg (show ¬ (9 : Int32) = 0 by decide), if_neg (show ¬ (9 : Int32) = 1 by decide), if_neg (show ¬ (9 : Int32) = 2 by decide), if_neg (show ¬ (9 : Int32) = 3 by decide), if_neg (show ¬ (9 : Int32) = 4 by decide), if_neg (show ¬ (9 : Int32) = 5 by decide), if_neg (show ¬ (9 : Int32) = 6 by decide), if_neg (show ¬ (9 : Int32) = 7 by decide), if_neg (show ¬ (9 : Int32) = 8 by decide), if_pos (show (9 : Int32) = 9 from rfl), r_spr h.1.1.1 hP6 (fun p hp => (h.1.2.1.2.2.2.1 p hp).1) (fun p hp => (ok.2.1.2.2.2.2.1 p hp).1) hN, Option.bind_some]
  by_cases n10 : x = 10
  · subst n10
    refine ⟨nI (dSeen d).length, fun σ h => ?_, fun σ h => ?_⟩
    · unfold m_X10_told
      rw [if_neg (show ¬ (10 : Int32) = 0 by decide), if_neg (show ¬ (10 : Int32) = 1 by decide), if_neg (show ¬ (10 : Int32) = 2 by decide), if_neg (show ¬ (10 : Int32) = 3 by decide), if_neg (show ¬ (10 : Int32) = 4 by decide), if_neg (show ¬ (10 : Int32) = 5 by decide), if_neg (show ¬ (10 : Int32) = 6 by decide), if_neg (show ¬ (10 : Int32) = 7 by decide), if_neg (show ¬ (10 : Int32) = 8 by decide), if_neg (show ¬ (10 : Int32) = 9 by decide), if_pos (show (10 : Int32) = 10 from rfl), h.2.2.2.1]
    · unfold m_X11_told
      rw [if_neg (show ¬ (10 : Int32) = 0 by decide), if_neg (show ¬ (10 : Int32) = 1 by decide), if_neg (show ¬ (10 : Int32) = 2 by decide), if_neg (show ¬ (10 : Int32) = 3 by decide), if_neg (show ¬ (10 : Int32) = 4 by decide), if_neg (show ¬ (10 : Int32) = 5 by decide), if_neg (show ¬ (10 : Int32) = 6 by decide), if_neg (show ¬ (10 : Int32) = 7 by decide), if_neg (show ¬ (10 : Int32) = 8 by decide), if_neg (show ¬ (10 : Int32) = 9 by decide), if_pos (show (10 : Int32) = 10 from rfl), h.2.2.2.1]
  by_cases n11 : x = 11
  · subst n11
    refine ⟨nI (dLit d), fun σ h => ?_, fun σ h => ?_⟩
    · unfold m_X10_told
      rw [if_neg (show ¬ (11 : Int32) = 0 by decide), if_neg (show ¬ (11 : Int32) = 1 by decide), if_neg (show ¬ (11 : Int32) = 2 by decide), if_neg (show ¬ (11 : Int32) = 3 by decide), if_neg (show ¬ (11 : Int32) = 4 by decide), if_neg (show ¬ (11 : Int32) = 5 by decide), if_neg (show ¬ (11 : Int32) = 6 by decide), if_neg (show ¬ (11 : Int32) = 7 by decide), if_neg (show ¬ (11 : Int32) = 8 by decide), if_neg (show ¬ (11 : Int32) = 9 by decide), if_neg (show ¬ (11 : Int32) = 10 by decide), if_pos (show (11 : Int32) = 11 from rfl), h.2.2.2.2.2.1]
    · unfold m_X11_told
      rw [if_neg (show ¬ (11 : Int32) = 0 by decide), if_neg (show ¬ (11 : Int32) = 1 by decide), if_neg (show ¬ (11 : Int32) = 2 by decide), if_neg (show ¬ (11 : Int32) = 3 by decide), if_neg (show ¬ (11 : Int32) = 4 by decide), if_neg (show ¬ (11 : Int32) = 5 by decide), if_neg (show ¬ (11 : Int32) = 6 by decide), if_neg (show ¬ (11 : Int32) = 7 by decide), if_neg (show ¬ (11 : Int32) = 8 by decide), if_neg (show ¬ (11 : Int32) = 9 by decide), if_neg (show ¬ (11 : Int32) = 10 by decide), if_pos (show (11 : Int32) = 11 from rfl), h.2.2.2.2.2.1]
  by_cases n12 : x = 12
  · subst n12
    refine ⟨nI (dBook d).length, fun σ h => ?_, fun σ h => ?_⟩
    · unfold m_X10_told
      rw [if_neg (show ¬ (12 : Int32) = 0 by decide), if_neg (show ¬ (12 : Int32) = 1 by decide), if_neg (show ¬ (12 : Int32) = 2 by decide), if_neg (show ¬ (12 : Int32) = 3 by decide), if_neg (show ¬ (12 : Int32) = 4 by decide), if_neg (show ¬ (12 : Int32) = 5 by decide), if_neg (show ¬ (12 : Int32) = 6 by decide), if_neg (show ¬ (12 : Int32) = 7 by decide), if_neg (show ¬ (12 : Int32) = 8 by decide), if_neg (show ¬ (12 : Int32) = 9 by decide), if_neg (show ¬ (12 : Int32) = 10 by decide), if_neg (show ¬ (12 : Int32) = 11 by decide), if_pos (show (12 : Int32) = 12 from rfl), h.2.2.2.2.2.2.2.1]
    · unfold m_X11_told
      rw [if_neg (show ¬ (12 : Int32) = 0 by decide), if_neg (show ¬ (12 : Int32) = 1 by decide), if_neg (show ¬ (12 : Int32) = 2 by decide), if_neg (show ¬ (12 : Int32) = 3 by decide), if_neg (show ¬ (12 : Int32) = 4 by decide), if_neg (show ¬ (12 : Int32) = 5 by decide), if_neg (show ¬ (12 : Int32) = 6 by decide), if_neg (show ¬ (12 : Int32) = 7 by decide), if_neg (show ¬ (12 : Int32) = 8 by decide), if_neg (show ¬ (12 : Int32) = 9 by decide), if_neg (show ¬ (12 : Int32) = 10 by decide), if_neg (show ¬ (12 : Int32) = 11 by decide), if_pos (show (12 : Int32) = 12 from rfl), h.2.2.2.2.2.2.2.1]
  by_cases n13 : x = 13
  · subst n13
    refine ⟨nI (dU d).length, fun σ h => ?_, fun σ h => ?_⟩
    · unfold m_X10_told
      rw [if_neg (show ¬ (13 : Int32) = 0 by decide), if_neg (show ¬ (13 : Int32) = 1 by decide), if_neg (show ¬ (13 : Int32) = 2 by decide), if_neg (show ¬ (13 : Int32) = 3 by decide), if_neg (show ¬ (13 : Int32) = 4 by decide), if_neg (show ¬ (13 : Int32) = 5 by decide), if_neg (show ¬ (13 : Int32) = 6 by decide), if_neg (show ¬ (13 : Int32) = 7 by decide), if_neg (show ¬ (13 : Int32) = 8 by decide), if_neg (show ¬ (13 : Int32) = 9 by decide), if_neg (show ¬ (13 : Int32) = 10 by decide), if_neg (show ¬ (13 : Int32) = 11 by decide), if_neg (show ¬ (13 : Int32) = 12 by decide), if_pos (show (13 : Int32) = 13 from rfl), h.2.1.1]
    · unfold m_X11_told
      rw [if_neg (show ¬ (13 : Int32) = 0 by decide), if_neg (show ¬ (13 : Int32) = 1 by decide), if_neg (show ¬ (13 : Int32) = 2 by decide), if_neg (show ¬ (13 : Int32) = 3 by decide), if_neg (show ¬ (13 : Int32) = 4 by decide), if_neg (show ¬ (13 : Int32) = 5 by decide), if_neg (show ¬ (13 : Int32) = 6 by decide), if_neg (show ¬ (13 : Int32) = 7 by decide), if_neg (show ¬ (13 : Int32) = 8 by decide), if_neg (show ¬ (13 : Int32) = 9 by decide), if_neg (show ¬ (13 : Int32) = 10 by decide), if_neg (show ¬ (13 : Int32) = 11 by decide), if_neg (show ¬ (13 : Int32) = 12 by decide), if_pos (show (13 : Int32) = 13 from rfl), h.2.1.1]
  refine ⟨-1000000002, fun σ h => ?_, fun σ h => ?_⟩
  · unfold m_X10_told
    rw [if_neg n0, if_neg n1, if_neg n2, if_neg n3, if_neg n4, if_neg n5, if_neg n6, if_neg n7, if_neg n8, if_neg n9, if_neg n10, if_neg n11, if_neg n12, if_neg n13]
  · unfold m_X11_told
    rw [if_neg n0, if_neg n1, if_neg n2, if_neg n3, if_neg n4, if_neg n5, if_neg n6, if_neg n7, if_neg n8, if_neg n9, if_neg n10, if_neg n11, if_neg n12, if_neg n13]
theorem e15a (t : Nat) : ((15 : Int32) + ((3 : Int32) * nI t)) + (1 : Int32) = nI (15 + 3 * t + 1) := by rw [e15]; exact nI_1 _
theorem e15b (t : Nat) : ((15 : Int32) + ((3 : Int32) * nI t)) + (2 : Int32) = nI (15 + 3 * t + 2) := by rw [e15]; exact nI_add _ 2
theorem e3a (p : Nat) : ((3 : Int32) + ((2 : Int32) * nI p)) + (1 : Int32) = nI (3 + 2 * p + 1) := by rw [e3]; exact nI_1 _
set_option maxHeartbeats 4000000 in
theorem sp_ticket (x y : Int32) : Sp (m_X10_ticket x y) (m_X11_ticket x y) := by
  refine Sp_ro (fun d ok => ?_)
  have hK8 : tK (dT d) ≤ 8 := ok.1.2.1
  rcases i_cases x (tK (dT d)) (by omega) with ⟨t, ht, rfl⟩ | hx
  · have hin : g_in (nI t) (tK (dT d)) := a_in ht (by omega)
    have hi8 : g_in (nI t) 8 := a_in (by omega) (by omega)
    have hc : (nI t).toNatClampNeg = t := nI_clamp (by omega)
    by_cases n0 : y = 0
    · subst n0
      refine ⟨nI (nH (dN d) t), fun σ h => ?_, fun σ h => ?_⟩
      · unfold m_X10_ticket
        rw [c_isT (nI t) h.1.1.2.1 (by omega), Option.bind_some]
        dsimp only
        rw [if_pos hin, if_neg n10, if_pos (show (0 : Int32) = 0 from rfl), if_pos hi8, hc, (h.1.2.1.2.2.2.2 t ht).1]
      · unfold m_X11_ticket
        rw [r_isT (nI t) h.1.1.2.1 (by omega), Option.bind_some]
        dsimp only
        rw [if_pos hin, if_neg n10, if_pos (show (0 : Int32) = 0 from rfl), e15 t, if_pos (a_in (show 15 + 3 * t < 39 by omega) (by omega)), nI_clamp (by omega), (h.1.2.1.2.2.2.2 t ht).1]
    by_cases n1 : y = 1
    · subst n1
      refine ⟨nI (tW (dT d) t), fun σ h => ?_, fun σ h => ?_⟩
      · unfold m_X10_ticket
        rw [c_isT (nI t) h.1.1.2.1 (by omega), Option.bind_some]
        dsimp only
        rw [if_pos hin, if_neg n10, if_neg (show ¬ (1 : Int32) = 0 by decide), if_pos (show (1 : Int32) = 1 from rfl), if_pos hi8, hc, h.1.1.2.2.2.2.2 t ht]
      · unfold m_X11_ticket
        rw [r_isT (nI t) h.1.1.2.1 (by omega), Option.bind_some]
        dsimp only
        rw [if_pos hin, if_neg n10, if_neg (show ¬ (1 : Int32) = 0 by decide), if_pos (show (1 : Int32) = 1 from rfl), r_w1 (by omega) (h.1.1.2.2.2.2.2 t ht), Option.bind_some]
    by_cases n2 : y = 2
    · subst n2
      refine ⟨nI (nP (dN d) t), fun σ h => ?_, fun σ h => ?_⟩
      · unfold m_X10_ticket
        rw [c_isT (nI t) h.1.1.2.1 (by omega), Option.bind_some]
        dsimp only
        rw [if_pos hin, if_neg n10, if_neg (show ¬ (2 : Int32) = 0 by decide), if_neg (show ¬ (2 : Int32) = 1 by decide), if_pos (show (2 : Int32) = 2 from rfl), if_pos hi8, hc, (h.1.2.1.2.2.2.2 t ht).2.2]
      · unfold m_X11_ticket
        rw [r_isT (nI t) h.1.1.2.1 (by omega), Option.bind_some]
        dsimp only
        rw [if_pos hin, if_neg n10, if_neg (show ¬ (2 : Int32) = 0 by decide), if_neg (show ¬ (2 : Int32) = 1 by decide), if_pos (show (2 : Int32) = 2 from rfl), e15b t, if_pos (a_in (show 15 + 3 * t + 2 < 39 by omega) (by omega)), nI_clamp (by omega), (h.1.2.1.2.2.2.2 t ht).2.2]
    by_cases n3 : y = 3
    · subst n3
      refine ⟨plv (nL (dN d) t), fun σ h => ?_, fun σ h => ?_⟩
      · unfold m_X10_ticket
        rw [c_isT (nI t) h.1.1.2.1 (by omega), Option.bind_some]
        dsimp only
        rw [if_pos hin, if_neg n10, if_neg (show ¬ (3 : Int32) = 0 by decide), if_neg (show ¬ (3 : Int32) = 1 by decide), if_neg (show ¬ (3 : Int32) = 2 by decide), if_pos (show (3 : Int32) = 3 from rfl), if_pos hi8, hc, (h.1.2.1.2.2.2.2 t ht).2.1]
      · unfold m_X11_ticket
        rw [r_isT (nI t) h.1.1.2.1 (by omega), Option.bind_some]
        dsimp only
        rw [if_pos hin, if_neg n10, if_neg (show ¬ (3 : Int32) = 0 by decide), if_neg (show ¬ (3 : Int32) = 1 by decide), if_neg (show ¬ (3 : Int32) = 2 by decide), if_pos (show (3 : Int32) = 3 from rfl), e15a t, if_pos (a_in (show 15 + 3 * t + 1 < 39 by omega) (by omega)), nI_clamp (by omega), (h.1.2.1.2.2.2.2 t ht).2.1]
    refine ⟨-1000000002, fun σ h => ?_, fun σ h => ?_⟩
    · unfold m_X10_ticket
      rw [c_isT (nI t) h.1.1.2.1 (by omega), Option.bind_some]
      dsimp only
      rw [if_pos hin, if_neg n10, if_neg n0, if_neg n1, if_neg n2, if_neg n3]
    · unfold m_X11_ticket
      rw [r_isT (nI t) h.1.1.2.1 (by omega), Option.bind_some]
      dsimp only
      rw [if_pos hin, if_neg n10, if_neg n0, if_neg n1, if_neg n2, if_neg n3]
  · have hout : ¬ g_in x (tK (dT d)) := a_out (by omega) hx
    refine ⟨-1000000001, fun σ h => ?_, fun σ h => ?_⟩
    · unfold m_X10_ticket
      simp only [c_isT x h.1.1.2.1 (by omega), Option.bind_some, if_neg hout, if_true]
    · unfold m_X11_ticket
      simp only [r_isT x h.1.1.2.1 (by omega), Option.bind_some, if_neg hout, if_true]
