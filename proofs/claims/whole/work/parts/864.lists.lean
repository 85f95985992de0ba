/-! calls that note something: feed, see, write, candles -/
theorem lsI_app {l : List Nat} {σ : g_St} {c k : Nat} (h : lsI l (σ.1 c)) : lsI (l ++ [k]) ((g_sI σ c l.length (nI k)).1 c) := by
  intro i hi
  by_cases e : i = l.length
  · subst e
    rw [sI_k]
    simp [List.getD_eq_getElem?_getD]
  · have hl : i < l.length := by
      have := List.length_append (as := l) (bs := [k])
      simp only [List.length_singleton] at this
      omega
    rw [sI_n e, List.getD_eq_getElem?_getD, List.getElem?_append_left hl, ← List.getD_eq_getElem?_getD]
    exact h i hl
theorem lsI_k {l : List Nat} {f g : Nat → Int32} (h : lsI l f) (e : g = f) : lsI l g := e ▸ h
theorem mem_app1 {l : List Nat} {k b : Nat} (h : ∀ t ∈ l, t < b) (hk : k < b) : ∀ t ∈ l ++ [k], t < b := fun t ht => by
  rcases List.mem_append.mp ht with q | q
  · exact h t q
  · rw [List.mem_singleton.mp q]; exact hk
theorem len_app1 {l : List Nat} {k : Nat} : (l ++ [k]).length = l.length + 1 := by simp
theorem a_lt {a : Nat} (b : Nat) (h : a < b) (hb : b < 2 ^ 31) : nI a < nI b := nI_lt h hb
theorem a_nlt {a : Nat} (b : Nat) (h : b ≤ a) (ha : a < 2 ^ 31) : ¬ nI a < nI b := nI_nlt h ha
theorem a_le {a : Nat} (b : Nat) (h : a ≤ b) (hb : b < 2 ^ 31) : nI a ≤ nI b := nI_le h hb
theorem a_nle {a : Nat} (b : Nat) (h : b < a) (ha : a < 2 ^ 31) : ¬ nI a ≤ nI b := nI_ge h ha
theorem a_ne {a : Nat} (b : Nat) (h : a ≠ b) (ha : a < 2 ^ 31) (hb : b < 2 ^ 31) : ¬ nI a = nI b := fun q => h ((nI_eq ha hb).mp q)
theorem a_in {a n : Nat} (h : a < n) (ha : a < 2 ^ 31) : g_in (nI a) n := (u_in ha).mpr h
theorem a_out {x : Int32} {n : Nat} (hn : n < 2 ^ 31) (h : x < 0 ∨ nI n ≤ x) : ¬ g_in x n := fun q => (g_in_iff hn).mp q h
abbrev dsSeen (d : Dt) (l : List Nat) : Dt := (d.1, d.2.1, (l, d.2.2.1.2), d.2.2.2)
abbrev dsBook (d : Dt) (l : List Nat) : Dt := (d.1, d.2.1, d.2.2.1, l, d.2.2.2.2)
abbrev dsLit (d : Dt) (s : Nat) (f : Nat → Nat) : Dt := (d.1, d.2.1, (d.2.2.1.1, s, f), d.2.2.2)
set_option maxHeartbeats 1000000 in
theorem sp_see (x : Int32) : Sp (m_X10_see x) (m_X11_see x) := by
  intro d ok
  have hK8 : tK (dT d) ≤ 8 := ok.1.2.1
  have hs8 : (dSeen d).length ≤ 8 := ok.2.2.2.2.2.1.1
  rcases i_cases x (tK (dT d)) (by omega) with ⟨t, ht, rfl⟩ | hx
  · have hin : g_in (nI t) (tK (dT d)) := a_in ht (by omega)
    by_cases hl : (dSeen d).length = 8
    · refine ⟨-1000000004, d, ok, fun σ h => ⟨σ, ?_, h, keepR_rf σ⟩, fun σ h => ⟨σ, ?_, h, keepC_rf σ⟩⟩
      · have s1 : ¬ nI (dSeen d).length < (8 : Int32) := a_nlt 8 (by omega) (by omega)
        unfold m_X10_see
        simp only [c_isT (nI t) h.1.1.2.1 (by omega), Option.bind_some, if_pos hin, if_neg n10, h.2.2.2.1, if_neg s1]
      · have s1 : nI (dSeen d).length = (8 : Int32) := by rw [hl]; rfl
        unfold m_X11_see
        simp only [r_isT (nI t) h.1.1.2.1 (by omega), Option.bind_some, if_pos hin, if_neg n10, h.2.2.2.1, if_pos s1]
    · obtain ⟨o1, o2, o3, o4, o5, o6, o7⟩ := ok
      refine ⟨nI ((dSeen d).length + 1), dsSeen d (dSeen d ++ [t]), ⟨o1, o2, o3, o4, o5, ⟨by show (dSeen d ++ [t]).length ≤ 8; rw [len_app1]; omega, mem_app1 o6.2 ht⟩, o7⟩, fun σ h => ?_, fun σ h => ?_⟩
      · obtain ⟨⟨a1, a2, a3⟩, h2, h3, h4, h5, h6, h7, h8, h9, h10, h11, h12⟩ := h
        have s1 : nI (dSeen d).length < (8 : Int32) := a_lt 8 (by omega) (by omega)
        have s2 : ¬ (8 : Int32) ≤ nI (dSeen d).length := a_nle (a := 8) (dSeen d).length (by omega) (by omega)
        have s3 : g_in (nI (dSeen d).length) 8 := a_in (by omega) (by omega)
        refine ⟨g_sI (g_sI σ 68 (dSeen d).length (nI t)) 67 1 (nI ((dSeen d).length + 1)), ?_, ⟨⟨CT_k a1 (fun c _ _ => by simp (disch := omega) only [sI_o, sI_k, sI_n, sA_o, sA_s, sI_2, sA_2, sL_1, sL_o]), CN_k a2 (fun c _ _ => by simp (disch := omega) only [sI_o, sI_k, sI_n, sA_o, sA_s, sI_2, sA_2, sL_1, sL_o]), ?_⟩, CCu_k h2 rfl rfl (fun c _ _ => by simp (disch := omega) only [sI_o, sI_k, sI_n, sA_o, sA_s, sI_2, sA_2, sL_1, sL_o]), CCk_k h3 rfl rfl (fun c _ _ => by simp (disch := omega) only [sI_o, sI_k, sI_n, sA_o, sA_s, sI_2, sA_2, sL_1, sL_o]), ?_⟩, keepR_tr (keepR_I (by omega)) (keepR_I (by omega))⟩
        · unfold m_X10_see m_X8_add g_lt
          simp only [c_isT (nI t) a1.2.1 (by omega), Option.bind_some, if_pos hin, if_neg n10, h4, if_pos s1, if_neg s2, if_pos s3, nI_clamp (show (dSeen d).length < 2 ^ 31 by omega)]
          simp (disch := omega) only [sI_o, sI_k, sI_n, sA_o, sA_s, sI_2, sA_2, sL_1, sL_o]
          rw [h4, nI_1]
        · simp (disch := omega) only [sI_o, sI_k, sI_n, sA_o, sA_s, sI_2, sA_2, sL_1, sL_o]; exact a3
        · unfold CCs
          simp (disch := omega) only [sI_o, sI_k, sI_n, sA_o, sA_s, sI_2, sA_2, sL_1, sL_o]
          refine ⟨by rw [len_app1], lsI_app h5, h6, h7, h8, h9, h10, h11, h12⟩
      · obtain ⟨⟨a1, a2, a3⟩, h2, h3, h4, h5, h6, h7, h8, h9, h10, h11, h12⟩ := h
        have s1 : ¬ nI (dSeen d).length = (8 : Int32) := a_ne 8 hl (by omega) (by omega)
        have s3 : g_in (nI (dSeen d).length) 8 := a_in (by omega) (by omega)
        refine ⟨g_sI (g_sI σ 89 (dSeen d).length (nI t)) 77 17 (nI ((dSeen d).length + 1)), ?_, ⟨⟨?_, ?_, ?_⟩, RRu_k h2 rfl rfl (by simp (disch := omega) only [sI_o, sI_k, sI_n, sA_o, sA_s, sI_2, sA_2, sL_1, sL_o]) (by simp (disch := omega) only [sI_o, sI_k, sI_n, sA_o, sA_s, sI_2, sA_2, sL_1, sL_o]), RRk_k h3 rfl rfl (by simp (disch := omega) only [sI_o, sI_k, sI_n, sA_o, sA_s, sI_2, sA_2, sL_1, sL_o]), ?_⟩, keepC_tr (keepC_I (by omega)) (keepC_I (by omega))⟩
        · unfold m_X11_see g_lt
          simp only [r_isT (nI t) a1.2.1 (by omega), Option.bind_some, if_pos hin, if_neg n10, h4, if_neg s1, if_pos s3, nI_clamp (show (dSeen d).length < 2 ^ 31 by omega)]
          simp (disch := omega) only [sI_o, sI_k, sI_n, sA_o, sA_s, sI_2, sA_2, sL_1, sL_o]
          rw [h4, nI_1]
        · simp (disch := omega) only [sI_o, sI_k, sI_n, sA_o, sA_s, sI_2, sA_2, sL_1, sL_o]; exact a1
        · simp (disch := omega) only [sI_o, sI_k, sI_n, sA_o, sA_s, sI_2, sA_2, sL_1, sL_o]; exact a2
        · simp (disch := omega) only [sI_o, sI_k, sI_n, sA_o, sA_s, sI_2, sA_2, sL_1, sL_o]; exact a3
        · unfold RRs
          simp (disch := omega) only [sI_o, sI_k, sI_n, sA_o, sA_s, sI_2, sA_2, sL_1, sL_o]
          refine ⟨by rw [len_app1], lsI_app h5, h6, h7, h8, h9, h10, h11, h12⟩
  · have hout : ¬ g_in x (tK (dT d)) := a_out (by omega) hx
    refine ⟨-1000000001, d, ok, fun σ h => ⟨σ, ?_, h, keepR_rf σ⟩, fun σ h => ⟨σ, ?_, h, keepC_rf σ⟩⟩
    · unfold m_X10_see
      simp only [c_isT x h.1.1.2.1 (by omega), Option.bind_some, if_neg hout, if_true]
    · unfold m_X11_see
      simp only [r_isT x h.1.1.2.1 (by omega), Option.bind_some, if_neg hout, if_true]
set_option maxHeartbeats 1000000 in
theorem sp_write (x : Int32) : Sp (m_X10_write x) (m_X11_write x) := by
  intro d ok
  have hK8 : tK (dT d) ≤ 8 := ok.1.2.1
  have hs8 : (dBook d).length ≤ 20 := ok.2.2.2.2.2.2.2.1.1
  rcases i_cases x (tK (dT d)) (by omega) with ⟨t, ht, rfl⟩ | hx
  · have hin : g_in (nI t) (tK (dT d)) := a_in ht (by omega)
    by_cases hl : (dBook d).length = 20
    · refine ⟨-1000000004, d, ok, fun σ h => ⟨σ, ?_, h, keepR_rf σ⟩, fun σ h => ⟨σ, ?_, h, keepC_rf σ⟩⟩
      · have s1 : ¬ nI (dBook d).length < (20 : Int32) := a_nlt 20 (by omega) (by omega)
        unfold m_X10_write
        simp only [c_isT (nI t) h.1.1.2.1 (by omega), Option.bind_some, if_pos hin, if_neg n10, h.2.2.2.2.2.2.2.1, if_neg s1]
      · have s1 : nI (dBook d).length = (20 : Int32) := by rw [hl]; rfl
        unfold m_X11_write
        simp only [r_isT (nI t) h.1.1.2.1 (by omega), Option.bind_some, if_pos hin, if_neg n10, h.2.2.2.2.2.2.2.1, if_pos s1]
    · obtain ⟨o1, o2, o3, o4, o5, o6, o7, o8, o9⟩ := ok
      refine ⟨nI ((dBook d).length + 1), dsBook d (dBook d ++ [t]), ⟨o1, o2, o3, o4, o5, o6, o7, ⟨by show (dBook d ++ [t]).length ≤ 20; rw [len_app1]; omega, mem_app1 o8.2 ht⟩, o9⟩, fun σ h => ?_, fun σ h => ?_⟩
      · obtain ⟨⟨a1, a2, a3⟩, h2, h3, h4, h5, h6, h7, h8, h9, h10, h11, h12⟩ := h
        have s1 : nI (dBook d).length < (20 : Int32) := a_lt 20 (by omega) (by omega)
        have s2 : ¬ (20 : Int32) ≤ nI (dBook d).length := a_nle (a := 20) (dBook d).length (by omega) (by omega)
        have s3 : g_in (nI (dBook d).length) 20 := a_in (by omega) (by omega)
        refine ⟨g_sI (g_sI σ 75 (dBook d).length (nI t)) 74 1 (nI ((dBook d).length + 1)), ?_, ⟨⟨CT_k a1 (fun c _ _ => by simp (disch := omega) only [sI_o, sI_k, sI_n, sA_o, sA_s, sI_2, sA_2, sL_1, sL_o]), CN_k a2 (fun c _ _ => by simp (disch := omega) only [sI_o, sI_k, sI_n, sA_o, sA_s, sI_2, sA_2, sL_1, sL_o]), ?_⟩, CCu_k h2 rfl rfl (fun c _ _ => by simp (disch := omega) only [sI_o, sI_k, sI_n, sA_o, sA_s, sI_2, sA_2, sL_1, sL_o]), CCk_k h3 rfl rfl (fun c _ _ => by simp (disch := omega) only [sI_o, sI_k, sI_n, sA_o, sA_s, sI_2, sA_2, sL_1, sL_o]), ?_⟩, keepR_tr (keepR_I (by omega)) (keepR_I (by omega))⟩
        · unfold m_X10_write m_X0_add g_lt
          simp only [c_isT (nI t) a1.2.1 (by omega), Option.bind_some, if_pos hin, if_neg n10, h8, if_pos s1, if_neg s2, if_pos s3, nI_clamp (show (dBook d).length < 2 ^ 31 by omega)]
          simp (disch := omega) only [sI_o, sI_k, sI_n, sA_o, sA_s, sI_2, sA_2, sL_1, sL_o]
          rw [h8, nI_1]
        · simp (disch := omega) only [sI_o, sI_k, sI_n, sA_o, sA_s, sI_2, sA_2, sL_1, sL_o]; exact a3
        · unfold CCs
          simp (disch := omega) only [sI_o, sI_k, sI_n, sA_o, sA_s, sI_2, sA_2, sL_1, sL_o]
          refine ⟨h4, h5, h6, h7, by rw [len_app1], lsI_app h9, h10, h11, h12⟩
      · obtain ⟨⟨a1, a2, a3⟩, h2, h3, h4, h5, h6, h7, h8, h9, h10, h11, h12⟩ := h
        have s1 : ¬ nI (dBook d).length = (20 : Int32) := a_ne 20 hl (by omega) (by omega)
        have s3 : g_in (nI (dBook d).length) 20 := a_in (by omega) (by omega)
        refine ⟨g_sI (g_sI σ 91 (dBook d).length (nI t)) 77 21 (nI ((dBook d).length + 1)), ?_, ⟨⟨?_, ?_, ?_⟩, RRu_k h2 rfl rfl (by simp (disch := omega) only [sI_o, sI_k, sI_n, sA_o, sA_s, sI_2, sA_2, sL_1, sL_o]) (by simp (disch := omega) only [sI_o, sI_k, sI_n, sA_o, sA_s, sI_2, sA_2, sL_1, sL_o]), RRk_k h3 rfl rfl (by simp (disch := omega) only [sI_o, sI_k, sI_n, sA_o, sA_s, sI_2, sA_2, sL_1, sL_o]), ?_⟩, keepC_tr (keepC_I (by omega)) (keepC_I (by omega))⟩
        · unfold m_X11_write g_lt
          simp only [r_isT (nI t) a1.2.1 (by omega), Option.bind_some, if_pos hin, if_neg n10, h8, if_neg s1, if_pos s3, nI_clamp (show (dBook d).length < 2 ^ 31 by omega)]
          simp (disch := omega) only [sI_o, sI_k, sI_n, sA_o, sA_s, sI_2, sA_2, sL_1, sL_o]
          rw [h8, nI_1]
        · simp (disch := omega) only [sI_o, sI_k, sI_n, sA_o, sA_s, sI_2, sA_2, sL_1, sL_o]; exact a1
        · simp (disch := omega) only [sI_o, sI_k, sI_n, sA_o, sA_s, sI_2, sA_2, sL_1, sL_o]; exact a2
        · simp (disch := omega) only [sI_o, sI_k, sI_n, sA_o, sA_s, sI_2, sA_2, sL_1, sL_o]; exact a3
        · unfold RRs
          simp (disch := omega) only [sI_o, sI_k, sI_n, sA_o, sA_s, sI_2, sA_2, sL_1, sL_o]
          refine ⟨h4, h5, h6, h7, by rw [len_app1], lsI_app h9, h10, h11, h12⟩
  · have hout : ¬ g_in x (tK (dT d)) := a_out (by omega) hx
    refine ⟨-1000000001, d, ok, fun σ h => ⟨σ, ?_, h, keepR_rf σ⟩, fun σ h => ⟨σ, ?_, h, keepC_rf σ⟩⟩
    · unfold m_X10_write
      simp only [c_isT x h.1.1.2.1 (by omega), Option.bind_some, if_neg hout, if_true]
    · unfold m_X11_write
      simp only [r_isT x h.1.1.2.1 (by omega), Option.bind_some, if_neg hout, if_true]
set_option maxHeartbeats 1000000 in
theorem sp_feed (x : Int32) : Sp (m_X10_feed x) (m_X11_feed x) := by
  intro d ok
  have hs8 : (dLet d).length ≤ 250 := ok.2.2.2.2.2.2.2.2.1
  have e255 : (255 : Int64) = (nI 256 - 1).toInt64 := by decide
  rcases i_cases x 256 (by omega) with ⟨t, ht, rfl⟩ | hx
  · have hin : g_in (nI t) 256 := a_in ht (by omega)
    have q1 : ¬ nI t < 0 := nI_pos (by omega)
    have q2 : nI t ≤ (255 : Int32) := a_le 255 (by omega) (by omega)
    by_cases hl : (dLet d).length = 250
    · refine ⟨-1000000004, d, ok, fun σ h => ⟨σ, ?_, h, keepR_rf σ⟩, fun σ h => ⟨σ, ?_, h, keepC_rf σ⟩⟩
      · have s1 : ¬ nI (dLet d).length < (250 : Int32) := a_nlt 250 (by omega) (by omega)
        unfold m_X10_feed
        simp only [if_neg q1, if_pos q2, h.2.2.2.2.2.2.2.2.2.1, if_neg s1]
      · have s1 : nI (dLet d).length = (250 : Int32) := by rw [hl]; rfl
        unfold m_X11_feed
        simp only [e255, r_inN (nI t) 256 (by omega), Option.bind_some, if_pos hin, if_neg n10, h.2.2.2.2.2.2.2.2.2.1, if_pos s1]
    · obtain ⟨o1, o2, o3, o4, o5, o6, o7, o8, o9⟩ := ok
      refine ⟨nI ((dLet d).length + 1), dsLet d (dLet d ++ [t]), ⟨o1, o2, o3, o4, o5, o6, o7, o8, ⟨by show (dLet d ++ [t]).length ≤ 250; rw [len_app1]; omega, mem_app1 o9.2 ht⟩⟩, fun σ h => ?_, fun σ h => ?_⟩
      · obtain ⟨⟨a1, a2, a3⟩, h2, h3, h4, h5, h6, h7, h8, h9, h10, h11, h12⟩ := h
        have s1 : nI (dLet d).length < (250 : Int32) := a_lt 250 (by omega) (by omega)
        have s3 : g_in (nI (dLet d).length) 250 := a_in (by omega) (by omega)
        refine ⟨g_sI (g_sI σ 1 (dLet d).length (nI t)) 0 12 (nI ((dLet d).length + 1)), ?_, ⟨⟨CT_k a1 (fun c _ _ => by simp (disch := omega) only [sI_o, sI_k, sI_n, sA_o, sA_s, sI_2, sA_2, sL_1, sL_o]), CN_k a2 (fun c _ _ => by simp (disch := omega) only [sI_o, sI_k, sI_n, sA_o, sA_s, sI_2, sA_2, sL_1, sL_o]), ?_⟩, CCu_k h2 rfl rfl (fun c _ _ => by simp (disch := omega) only [sI_o, sI_k, sI_n, sA_o, sA_s, sI_2, sA_2, sL_1, sL_o]), CCk_k h3 rfl rfl (fun c _ _ => by simp (disch := omega) only [sI_o, sI_k, sI_n, sA_o, sA_s, sI_2, sA_2, sL_1, sL_o]), ?_⟩, keepR_tr (keepR_I (by omega)) (keepR_I (by omega))⟩
        · unfold m_X10_feed g_lt
          simp only [if_neg q1, if_pos q2, h10, if_pos s1, if_pos s3, nI_clamp (show (dLet d).length < 2 ^ 31 by omega)]
          simp (disch := omega) only [sI_o, sI_k, sI_n, sA_o, sA_s, sI_2, sA_2, sL_1, sL_o]
          rw [h10, nI_1]
        · simp (disch := omega) only [sI_o, sI_k, sI_n, sA_o, sA_s, sI_2, sA_2, sL_1, sL_o]; exact a3
        · unfold CCs
          simp (disch := omega) only [sI_o, sI_k, sI_n, sA_o, sA_s, sI_2, sA_2, sL_1, sL_o]
          refine ⟨h4, h5, h6, h7, h8, h9, by rw [len_app1], lsI_app h11, h12⟩
      · obtain ⟨⟨a1, a2, a3⟩, h2, h3, h4, h5, h6, h7, h8, h9, h10, h11, h12⟩ := h
        have s1 : ¬ nI (dLet d).length = (250 : Int32) := a_ne 250 hl (by omega) (by omega)
        have s3 : g_in (nI (dLet d).length) 250 := a_in (by omega) (by omega)
        refine ⟨g_sI (g_sI σ 80 (dLet d).length (nI t)) 77 3 (nI ((dLet d).length + 1)), ?_, ⟨⟨?_, ?_, ?_⟩, RRu_k h2 rfl rfl (by simp (disch := omega) only [sI_o, sI_k, sI_n, sA_o, sA_s, sI_2, sA_2, sL_1, sL_o]) (by simp (disch := omega) only [sI_o, sI_k, sI_n, sA_o, sA_s, sI_2, sA_2, sL_1, sL_o]), RRk_k h3 rfl rfl (by simp (disch := omega) only [sI_o, sI_k, sI_n, sA_o, sA_s, sI_2, sA_2, sL_1, sL_o]), ?_⟩, keepC_tr (keepC_I (by omega)) (keepC_I (by omega))⟩
        · unfold m_X11_feed g_lt
          simp only [e255, r_inN (nI t) 256 (by omega), Option.bind_some, if_pos hin, if_neg n10, h10, if_neg s1, if_pos s3, nI_clamp (show (dLet d).length < 2 ^ 31 by omega)]
          simp (disch := omega) only [sI_o, sI_k, sI_n, sA_o, sA_s, sI_2, sA_2, sL_1, sL_o]
          rw [h10, nI_1]
        · simp (disch := omega) only [sI_o, sI_k, sI_n, sA_o, sA_s, sI_2, sA_2, sL_1, sL_o]; exact a1
        · simp (disch := omega) only [sI_o, sI_k, sI_n, sA_o, sA_s, sI_2, sA_2, sL_1, sL_o]; exact a2
        · simp (disch := omega) only [sI_o, sI_k, sI_n, sA_o, sA_s, sI_2, sA_2, sL_1, sL_o]; exact a3
        · unfold RRs
          simp (disch := omega) only [sI_o, sI_k, sI_n, sA_o, sA_s, sI_2, sA_2, sL_1, sL_o]
          refine ⟨h4, h5, h6, h7, h8, h9, by rw [len_app1], lsI_app h11, h12⟩
  · have hout : ¬ g_in x 256 := a_out (by omega) hx
    refine ⟨-1000000002, d, ok, fun σ h => ⟨σ, ?_, h, keepR_rf σ⟩, fun σ h => ⟨σ, ?_, h, keepC_rf σ⟩⟩
    · unfold m_X10_feed
      rcases hx with q | q
      · rw [if_pos q]
      · have q3 : ¬ x < 0 := fun z => by have h3 := Int32.lt_iff_toInt_lt.mp z; have h4 := Int32.le_iff_toInt_le.mp q; rw [nI_toInt (by omega)] at h4; have : (0 : Int32).toInt = 0 := by decide
                                         omega
        have q4 : ¬ x ≤ (255 : Int32) := fun z => by have h3 := Int32.le_iff_toInt_le.mp z; have h4 := Int32.le_iff_toInt_le.mp q; rw [nI_toInt (by omega)] at h4; have : (255 : Int32).toInt = 255 := by decide
                                                     omega
        rw [if_neg q3, if_neg q4]
    · unfold m_X11_feed
      simp only [e255, r_inN x 256 (by omega), Option.bind_some, if_neg hout, if_true]
set_option maxHeartbeats 1000000 in
theorem sp_right (x : Int32) : Sp (m_X10_right x) (m_X11_right x) := by
  refine Sp_ro (fun d ok => ?_)
  have e3 : (3 : Int64) = (nI 4 - 1).toInt64 := by decide
  rcases i_cases x 4 (by omega) with ⟨t, ht, rfl⟩ | hx
  · have hin : g_in (nI t) 4 := a_in ht (by omega)
    refine ⟨nI (tG (dT d) t), fun σ h => ?_, fun σ h => ?_⟩
    · have q1 : ¬ nI t < 0 := nI_pos (by omega)
      have q2 : ¬ (4 : Int32) ≤ nI t := a_nle (a := 4) t (by omega) (by omega)
      unfold m_X10_right m_X10_isRight
      simp only [if_neg q1, if_neg q2, Option.bind_some, if_neg n10, if_pos hin, nI_clamp (show t < 2 ^ 31 by omega), h.1.1.2.2.2.2.1 t ht]
    · have e5 : (5 : Int32) + nI t = nI (5 + t) := nI_add 5 t
      unfold m_X11_right
      simp only [e3, r_inN (nI t) 4 (by omega), Option.bind_some, if_pos hin, if_neg n10, e5, if_pos (a_in (show 5 + t < 45 by omega) (by omega)), nI_clamp (show 5 + t < 2 ^ 31 by omega), h.1.1.2.2.2.2.1 t ht]
  · have hout : ¬ g_in x 4 := a_out (by omega) hx
    refine ⟨-1000000002, fun σ h => ?_, fun σ h => ?_⟩
    · unfold m_X10_right m_X10_isRight
      rcases hx with q | q
      · simp only [if_pos q, Option.bind_some, if_true]
      · have q3 : ¬ x < 0 := fun z => by have h3 := Int32.lt_iff_toInt_lt.mp z; have h4 := Int32.le_iff_toInt_le.mp q; rw [nI_toInt (by omega)] at h4; have : (0 : Int32).toInt = 0 := by decide
                                         omega
        have q4 : (4 : Int32) ≤ x := q
        simp only [if_neg q3, if_pos q4, Option.bind_some, if_true]
    · unfold m_X11_right
      simp only [e3, r_inN x 4 (by omega), Option.bind_some, if_neg hout, if_true]
