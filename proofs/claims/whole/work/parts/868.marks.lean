/-! price, pawn, candles, tear -/
abbrev dsN (d : Dt) (v : Nw) : Dt := ((d.1.1, v), d.2)
abbrev vPr (v : Nw) (f : Nat → Nat) : Nw := (v.1, v.2.1, v.2.2.1, v.2.2.2.1, v.2.2.2.2.1, f)
abbrev vPl (v : Nw) (f : Nat → Option Nat) : Nw := (v.1, v.2.1, v.2.2.1, v.2.2.2.1, f, v.2.2.2.2.2)
abbrev vHC (v : Nw) (h c : Nat → Nat) : Nw := (v.1, v.2.1, c, h, v.2.2.2.2.1, v.2.2.2.2.2)
theorem CN_pr {w : Tw} {v : Nw} {σ : g_St} {t m : Nat} (h : CN w v σ) : CN w (vPr v (va_up (nP v) t m)) (g_sI σ 21 t (nI m)) := by
  obtain ⟨h1, h2, h3, h4, h5⟩ := h
  unfold CN
  simp (disch := omega) only [sI_o, sI_k, sI_n, sA_o, sA_s, sI_2, sA_2, sL_1, sL_o]
  refine ⟨h1, h2, h3, h4, fun s hs => ?_⟩
  obtain ⟨a1, a2, a3⟩ := h5 s hs
  refine ⟨a1, a2, ?_⟩
  show _ = nI (va_up (nP v) t m s)
  by_cases e : s = t
  · subst e; rw [sI_k, g_up_s]
  · rw [sI_n e, g_up_n _ _ e]; exact a3
theorem RN_pr {w : Tw} {v : Nw} {σ : g_St} {t m : Nat} (hP : tP w ≤ 6) (h : RN w v (σ.1 81)) : RN w (vPr v (va_up (nP v) t m)) ((g_sI σ 81 (15 + 3 * t + 2) (nI m)).1 81) := by
  obtain ⟨h1, h2, h3, h4, h5⟩ := h
  refine ⟨by rw [sI_n (by omega)]; exact h1, by rw [sI_n (by omega)]; exact h2, by rw [sI_n (by omega)]; exact h3, fun p hp => ⟨by rw [sI_n (by omega)]; exact (h4 p hp).1, by rw [sI_n (by omega)]; exact (h4 p hp).2⟩, fun s hs => ?_⟩
  obtain ⟨a1, a2, a3⟩ := h5 s hs
  refine ⟨by rw [sI_n (by omega)]; exact a1, by rw [sI_n (by omega)]; exact a2, ?_⟩
  show _ = nI (va_up (nP v) t m s)
  by_cases e : s = t
  · subst e; rw [sI_k, g_up_s]
  · rw [sI_n (by omega), g_up_n _ _ e]; exact a3
theorem CN_pl {w : Tw} {v : Nw} {σ : g_St} {t : Nat} {m : Option Nat} (h : CN w v σ) : CN w (vPl v (va_up (nL v) t m)) (g_sI σ 20 t (plv m)) := by
  obtain ⟨h1, h2, h3, h4, h5⟩ := h
  unfold CN
  simp (disch := omega) only [sI_o, sI_k, sI_n, sA_o, sA_s, sI_2, sA_2, sL_1, sL_o]
  refine ⟨h1, h2, h3, h4, fun s hs => ?_⟩
  obtain ⟨a1, a2, a3⟩ := h5 s hs
  refine ⟨a1, ?_, a3⟩
  show _ = plv (va_up (nL v) t m s)
  by_cases e : s = t
  · subst e; rw [sI_k, g_up_s]
  · rw [sI_n e, g_up_n _ _ e]; exact a2
theorem RN_pl {w : Tw} {v : Nw} {σ : g_St} {t : Nat} {m : Option Nat} (hP : tP w ≤ 6) (h : RN w v (σ.1 81)) : RN w (vPl v (va_up (nL v) t m)) ((g_sI σ 81 (15 + 3 * t + 1) (plv m)).1 81) := by
  obtain ⟨h1, h2, h3, h4, h5⟩ := h
  refine ⟨by rw [sI_n (by omega)]; exact h1, by rw [sI_n (by omega)]; exact h2, by rw [sI_n (by omega)]; exact h3, fun p hp => ⟨by rw [sI_n (by omega)]; exact (h4 p hp).1, by rw [sI_n (by omega)]; exact (h4 p hp).2⟩, fun s hs => ?_⟩
  obtain ⟨a1, a2, a3⟩ := h5 s hs
  refine ⟨by rw [sI_n (by omega)]; exact a1, ?_, by rw [sI_n (by omega)]; exact a3⟩
  show _ = plv (va_up (nL v) t m s)
  by_cases e : s = t
  · subst e; rw [sI_k, g_up_s]
  · rw [sI_n (by omega), g_up_n _ _ e]; exact a2
theorem CCs_k {d d' : Dt} {σ τ : g_St} (h : CCs d σ) (e : d' = dsN d (dN d')) (k : ∀ c, (c < 13 ∨ 59 ≤ c) → c < 77 → τ.1 c = σ.1 c) : CCs d' τ := by
  rw [e]
  unfold CCs at *
  simp (disch := omega) only [k]
  exact h
theorem RRs_k {d d' : Dt} {σ τ : g_St} (h : RRs d σ) (e : d' = dsN d (dN d')) (k : ∀ c, 77 ≤ c → c ≠ 81 → c < 93 → τ.1 c = σ.1 c) : RRs d' τ := by
  rw [e]
  unfold RRs at *
  simp (disch := omega) only [k]
  exact h
theorem out_lo {x : Int32} {n : Nat} (hn : n < 2 ^ 31) (h : nI n ≤ x) : ¬ x < 0 := fun z => by
  have h3 := Int32.lt_iff_toInt_lt.mp z
  have h4 := Int32.le_iff_toInt_le.mp h
  rw [nI_toInt hn] at h4
  have : (0 : Int32).toInt = 0 := by decide
  omega
theorem out_hi {x : Int32} {n : Nat} (hn : n + 1 < 2 ^ 31) (h : nI (n + 1) ≤ x) : ¬ x ≤ nI n := fun z => by
  have h3 := Int32.le_iff_toInt_le.mp z
  have h4 := Int32.le_iff_toInt_le.mp h
  rw [nI_toInt hn] at h4
  rw [nI_toInt (by omega)] at h3
  omega
set_option maxHeartbeats 1000000 in
theorem sp_price (x y : Int32) : Sp (m_X10_price x y) (m_X11_price x y) := by
  intro d ok
  have hP6 : tP (dT d) ≤ 6 := ok.1.1
  have hK8 : tK (dT d) ≤ 8 := ok.1.2.1
  have e99 : (99 : Int64) = (nI 100 - 1).toInt64 := by decide
  rcases i_cases x (tK (dT d)) (by omega) with ⟨t, ht, rfl⟩ | hx
  · have hin : g_in (nI t) (tK (dT d)) := a_in ht (by omega)
    have hi8 : g_in (nI t) 8 := a_in (by omega) (by omega)
    have hc : (nI t).toNatClampNeg = t := nI_clamp (by omega)
    rcases i_cases y 100 (by omega) with ⟨m, hm, rfl⟩ | hy
    · have him : g_in (nI m) 100 := a_in hm (by omega)
      have q1 : ¬ nI m < 0 := nI_pos (by omega)
      have q2 : nI m ≤ (99 : Int32) := a_le 99 (by omega) (by omega)
      obtain ⟨o1, ⟨p1, p2, p3, p4, p5, p6⟩, o3⟩ := ok
      refine ⟨nI (nP (dN d) t), dsN d (vPr (dN d) (va_up (nP (dN d)) t m)), ⟨o1, ⟨p1, p2, p3, p4, p5, fun s hs => ⟨(p6 s hs).1, (p6 s hs).2.1, ?_⟩⟩, o3⟩, fun σ h => ?_, fun σ h => ?_⟩
      · show va_up (nP (dN d)) t m s ≤ 99
        by_cases e : s = t
        · subst e; rw [g_up_s]; omega
        · rw [g_up_n _ _ e]; exact (p6 s hs).2.2
      · obtain ⟨⟨a1, a2, a3⟩, h2, h3, h4⟩ := h
        refine ⟨g_sI σ 21 t (nI m), ?_, ⟨⟨CT_k a1 (fun c _ _ => sI_o (by omega)), CN_pr a2, (by simp (disch := omega) only [sI_o, sI_k, sI_n, sA_o, sA_s, sI_2, sA_2, sL_1, sL_o]; exact a3)⟩, CCu_k h2 rfl rfl (fun c _ _ => sI_o (by omega)), CCk_k h3 rfl rfl (fun c _ _ => sI_o (by omega)), CCs_k h4 rfl (fun c _ _ => sI_o (by omega))⟩, keepR_I (by omega)⟩
        unfold m_X10_price g_lt
        rw [c_isT (nI t) a1.2.1 (by omega), Option.bind_some]
        dsimp only
        rw [if_pos hin, if_neg n10, if_neg q1, if_pos q2, if_pos hi8, hc, (a2.2.2.2.2 t ht).2.2, if_pos hi8]
      · obtain ⟨⟨a1, a2, a3⟩, h2, h3, h4⟩ := h
        refine ⟨g_sI σ 81 (15 + 3 * t + 2) (nI m), ?_, ⟨⟨(by simp (disch := omega) only [sI_o, sI_k, sI_n, sA_o, sA_s, sI_2, sA_2, sL_1, sL_o]; exact a1), RN_pr hP6 a2, (by simp (disch := omega) only [sI_o, sI_k, sI_n, sA_o, sA_s, sI_2, sA_2, sL_1, sL_o]; exact a3)⟩, RRu_k h2 rfl rfl (by simp (disch := omega) only [sI_o, sI_k, sI_n, sA_o, sA_s, sI_2, sA_2, sL_1, sL_o]) (by simp (disch := omega) only [sI_o, sI_k, sI_n, sA_o, sA_s, sI_2, sA_2, sL_1, sL_o]), RRk_k h3 rfl rfl (by simp (disch := omega) only [sI_o, sI_k, sI_n, sA_o, sA_s, sI_2, sA_2, sL_1, sL_o]), RRs_k h4 rfl (fun c _ _ _ => sI_o (by omega))⟩, keepC_I (by omega)⟩
        unfold m_X11_price g_lt
        rw [r_isT (nI t) a1.2.1 (by omega), Option.bind_some]
        dsimp only
        rw [if_pos hin, if_neg n10, e99, r_inN (nI m) 100 (by omega), Option.bind_some]
        dsimp only
        rw [if_pos him, if_neg n10, e15b, if_pos (a_in (by omega) (by omega)), nI_clamp (by omega), (a2.2.2.2.2 t ht).2.2, if_pos (a_in (by omega) (by omega))]
    · have hout : ¬ g_in y 100 := a_out (by omega) hy
      refine ⟨-1000000002, d, ok, fun σ h => ⟨σ, ?_, h, keepR_rf σ⟩, fun σ h => ⟨σ, ?_, h, keepC_rf σ⟩⟩
      · unfold m_X10_price
        rw [c_isT (nI t) h.1.1.2.1 (by omega), Option.bind_some]
        dsimp only
        rw [if_pos hin, if_neg n10]
        rcases hy with q | q
        · rw [if_pos q]
        · rw [if_neg (out_lo (by omega) q), if_neg (show ¬ y ≤ (99 : Int32) from out_hi (n := 99) (by omega) q)]
      · unfold m_X11_price
        rw [r_isT (nI t) h.1.1.2.1 (by omega), Option.bind_some]
        dsimp only
        rw [if_pos hin, if_neg n10, e99, r_inN y 100 (by omega), Option.bind_some]
        dsimp only
        rw [if_neg hout, if_pos rfl]
  · have hout : ¬ g_in x (tK (dT d)) := a_out (by omega) hx
    refine ⟨-1000000001, d, ok, fun σ h => ⟨σ, ?_, h, keepR_rf σ⟩, fun σ h => ⟨σ, ?_, h, keepC_rf σ⟩⟩
    · unfold m_X10_price
      simp only [c_isT x h.1.1.2.1 (by omega), Option.bind_some, if_neg hout, if_true]
    · unfold m_X11_price
      simp only [r_isT x h.1.1.2.1 (by omega), Option.bind_some, if_neg hout, if_true]
/-- nobody, or one of n -/
theorem o_cases (x : Int32) (n : Nat) (hn : n < 2 ^ 31) : (∃ o : Option Nat, x = plv o ∧ ∀ q, o = some q → q < n) ∨ (x ≠ -1 ∧ ¬ g_in x n) := by
  by_cases h : x = -1
  · exact Or.inl ⟨none, h, fun q hq => by cases hq⟩
  · rcases i_cases x n hn with ⟨k, hk, rfl⟩ | hx
    · exact Or.inl ⟨some k, rfl, fun q hq => by cases hq; exact hk⟩
    · exact Or.inr ⟨h, a_out hn hx⟩
theorem c_isPN {σ : g_St} {P : Nat} (o : Option Nat) (hP : σ.1 13 2 = nI P) (h : P < 2 ^ 31) (ho : ∀ q, o = some q → q < P) : m_X10_isPersonOrNone (plv o) σ = some (1, σ) := by
  unfold m_X10_isPersonOrNone m_X10_isPersonOrNone_13
  cases o with
  | none => rw [show plv none = -1 from rfl, if_pos rfl]
  | some q =>
    have := ho q rfl
    rw [show plv (some q) = nI q from rfl, if_neg (by rw [u_m1 (by omega)]; exact id), c_isP (nI q) hP h, Option.bind_some]
    dsimp only
    rw [if_pos (a_in this (by omega)), if_neg n10]
theorem c_isPNo {σ : g_St} {P : Nat} {x : Int32} (hP : σ.1 13 2 = nI P) (h : P < 2 ^ 31) (h1 : x ≠ -1) (h2 : ¬ g_in x P) : m_X10_isPersonOrNone x σ = some (0, σ) := by
  unfold m_X10_isPersonOrNone
  rw [if_neg h1, c_isP x hP h, Option.bind_some]
  dsimp only
  rw [if_neg h2, if_pos rfl]
set_option maxHeartbeats 1000000 in
theorem sp_pawn (x y : Int32) : Sp (m_X10_pawn x y) (m_X11_pawn x y) := by
  intro d ok
  have hP6 : tP (dT d) ≤ 6 := ok.1.1
  have hK8 : tK (dT d) ≤ 8 := ok.1.2.1
  rcases i_cases x (tK (dT d)) (by omega) with ⟨t, ht, rfl⟩ | hx
  · have hin : g_in (nI t) (tK (dT d)) := a_in ht (by omega)
    have hi8 : g_in (nI t) 8 := a_in (by omega) (by omega)
    have hc : (nI t).toNatClampNeg = t := nI_clamp (by omega)
    rcases o_cases y (tP (dT d)) (by omega) with ⟨o, rfl, ho⟩ | ⟨hy1, hy2⟩
    · obtain ⟨o1, ⟨p1, p2, p3, p4, p5, p6⟩, o3⟩ := ok
      refine ⟨plv (nL (dN d) t), dsN d (vPl (dN d) (va_up (nL (dN d)) t o)), ⟨o1, ⟨p1, p2, p3, p4, p5, fun s hs => ⟨(p6 s hs).1, ?_, (p6 s hs).2.2⟩⟩, o3⟩, fun σ h => ?_, fun σ h => ?_⟩
      · show ∀ q, va_up (nL (dN d)) t o s = some q → q < tP (dT d)
        by_cases e : s = t
        · subst e; rw [g_up_s]; exact ho
        · rw [g_up_n _ _ e]; exact (p6 s hs).2.1
      · obtain ⟨⟨a1, a2, a3⟩, h2, h3, h4⟩ := h
        refine ⟨g_sI σ 20 t (plv o), ?_, ⟨⟨CT_k a1 (fun c _ _ => sI_o (by omega)), CN_pl a2, (by simp (disch := omega) only [sI_o, sI_k, sI_n, sA_o, sA_s, sI_2, sA_2, sL_1, sL_o]; exact a3)⟩, CCu_k h2 rfl rfl (fun c _ _ => sI_o (by omega)), CCk_k h3 rfl rfl (fun c _ _ => sI_o (by omega)), CCs_k h4 rfl (fun c _ _ => sI_o (by omega))⟩, keepR_I (by omega)⟩
        unfold m_X10_pawn g_lt
        rw [c_isT (nI t) a1.2.1 (by omega), Option.bind_some]
        dsimp only
        rw [if_pos hin, if_neg n10, c_isPN o a1.1 (by omega) ho, Option.bind_some]
        dsimp only
        rw [if_neg n10, if_pos hi8, hc, (a2.2.2.2.2 t ht).2.1, if_pos hi8]
      · obtain ⟨⟨a1, a2, a3⟩, h2, h3, h4⟩ := h
        refine ⟨g_sI σ 81 (15 + 3 * t + 1) (plv o), ?_, ⟨⟨(by simp (disch := omega) only [sI_o, sI_k, sI_n, sA_o, sA_s, sI_2, sA_2, sL_1, sL_o]; exact a1), RN_pl hP6 a2, (by simp (disch := omega) only [sI_o, sI_k, sI_n, sA_o, sA_s, sI_2, sA_2, sL_1, sL_o]; exact a3)⟩, RRu_k h2 rfl rfl (by simp (disch := omega) only [sI_o, sI_k, sI_n, sA_o, sA_s, sI_2, sA_2, sL_1, sL_o]) (by simp (disch := omega) only [sI_o, sI_k, sI_n, sA_o, sA_s, sI_2, sA_2, sL_1, sL_o]), RRk_k h3 rfl rfl (by simp (disch := omega) only [sI_o, sI_k, sI_n, sA_o, sA_s, sI_2, sA_2, sL_1, sL_o]), RRs_k h4 rfl (fun c _ _ _ => sI_o (by omega))⟩, keepC_I (by omega)⟩
        have e24 : ∀ y, m_X11_pawn_24 (nI t) y σ = some (plv (nL (dN d) t), g_sI σ 81 (15 + 3 * t + 1) y) := fun y => by
          unfold m_X11_pawn_24 g_lt
          dsimp only
          rw [e15a, if_pos (a_in (by omega) (by omega)), nI_clamp (by omega), (a2.2.2.2.2 t ht).2.1, if_pos (a_in (by omega) (by omega))]
        unfold m_X11_pawn
        rw [r_isT (nI t) a1.2.1 (by omega), Option.bind_some]
        dsimp only
        rw [if_pos hin, if_neg n10]
        cases o with
        | none => rw [show plv none = -1 from rfl, if_pos rfl, e24]
        | some q =>
          have := ho q rfl
          rw [show plv (some q) = nI q from rfl, if_neg (by rw [u_m1 (by omega)]; exact id), r_isP (nI q) a1.1 (by omega), Option.bind_some]
          dsimp only
          rw [if_pos (a_in this (by omega)), if_neg n10, e24]
    · refine ⟨-1000000001, d, ok, fun σ h => ⟨σ, ?_, h, keepR_rf σ⟩, fun σ h => ⟨σ, ?_, h, keepC_rf σ⟩⟩
      · unfold m_X10_pawn
        rw [c_isT (nI t) h.1.1.2.1 (by omega), Option.bind_some]
        dsimp only
        rw [if_pos hin, if_neg n10, c_isPNo h.1.1.1 (by omega) hy1 hy2, Option.bind_some]
        dsimp only
        rw [if_pos rfl]
      · unfold m_X11_pawn
        rw [r_isT (nI t) h.1.1.2.1 (by omega), Option.bind_some]
        dsimp only
        rw [if_pos hin, if_neg n10, if_neg hy1, r_isP y h.1.1.1 (by omega), Option.bind_some]
        dsimp only
        rw [if_neg hy2, if_pos rfl]
  · have hout : ¬ g_in x (tK (dT d)) := a_out (by omega) hx
    refine ⟨-1000000001, d, ok, fun σ h => ⟨σ, ?_, h, keepR_rf σ⟩, fun σ h => ⟨σ, ?_, h, keepC_rf σ⟩⟩
    · unfold m_X10_pawn
      simp only [c_isT x h.1.1.2.1 (by omega), Option.bind_some, if_neg hout, if_true]
    · unfold m_X11_pawn
      simp only [r_isT x h.1.1.2.1 (by omega), Option.bind_some, if_neg hout, if_true]
