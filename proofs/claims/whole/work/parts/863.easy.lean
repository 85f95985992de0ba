/-! plain calls -/
theorem lc_lt {a b : Int64} : (lg_cmp a b < 0) = (a < b) := by
  refine propext ?_
  rw [← Int32.not_le, lg_cmp_ge, Int64.not_le]
theorem lc_gt {a b : Int64} : (0 < lg_cmp a b) = (b < a) := by
  unfold lg_cmp
  by_cases h : b < a
  · simp [h]
  · by_cases h2 : a = b
    · subst h2; simp [h]
    · simp [h, h2]
theorem l_lt {a b : Int32} : (a.toInt64 < b.toInt64) = (a < b) := by
  refine propext ?_
  rw [Int64.lt_iff_toInt_lt, Int32.lt_iff_toInt_lt, Int32.toInt_toInt64, Int32.toInt_toInt64]
theorem r_in (x lo hi : Int32) (σ : g_St) : m_X11_in x.toInt64 lo.toInt64 hi.toInt64 σ = some (if lo ≤ x ∧ x ≤ hi then 1 else 0, σ) := by
  unfold m_X11_in
  simp only [lc_lt, lc_gt, l_lt]
  by_cases h1 : x < lo
  · rw [if_pos h1, if_neg (fun q => by have h3 := Int32.lt_iff_toInt_lt.mp h1; have h4 := Int32.le_iff_toInt_le.mp q.1; omega)]
  · rw [if_neg h1]
    by_cases h2 : hi < x
    · rw [if_pos h2, if_neg (fun q => by have h3 := Int32.lt_iff_toInt_lt.mp h2; have h4 := Int32.le_iff_toInt_le.mp q.2; omega)]
    · rw [if_neg h2, if_pos ⟨Int32.not_lt.mp h1, Int32.not_lt.mp h2⟩]
/-- a number of things: below n, or not -/
theorem i_cases (x : Int32) (n : Nat) (hn : n < 2 ^ 31) : (∃ k, k < n ∧ x = nI k) ∨ (x < 0 ∨ nI n ≤ x) := by
  rcases pk_ix x hn with h | h | h
  · exact Or.inr (Or.inl h)
  · exact Or.inr (Or.inr h)
  · exact Or.inl h
theorem g_in_iff {x : Int32} {n : Nat} (hn : n < 2 ^ 31) : g_in x n ↔ ¬ (x < 0 ∨ nI n ≤ x) := by
  unfold g_in
  rw [Int32.lt_iff_toInt_lt, Int32.le_iff_toInt_le, nI_toInt hn]
  have : (0 : Int32).toInt = 0 := by decide
  rw [this]
  omega
theorem r_inN (x : Int32) (n : Nat) (hn : n < 2 ^ 31) (σ : g_St) : m_X11_in x.toInt64 (0 : Int64) (nI n - 1).toInt64 σ = some (if g_in x n then 1 else 0, σ) := by
  have h := r_in x 0 (nI n - 1) σ
  have e : (0 : Int32).toInt64 = (0 : Int64) := by decide
  rw [e] at h
  rw [h]
  have e2 : (nI n - 1).toInt = (n : Int) - 1 := by
    by_cases h0 : n = 0
    · subst h0; decide
    · have : nI n - 1 = nI (n - 1) := pk_sub (b := 1) (by omega)
      rw [this, nI_toInt (by omega)]; omega
  have e3 : (0 ≤ x ∧ x ≤ nI n - 1) ↔ g_in x n := by
    unfold g_in
    rw [Int32.le_iff_toInt_le, Int32.le_iff_toInt_le, e2]
    have : (0 : Int32).toInt = 0 := by decide
    rw [this]
    omega
  by_cases hg : g_in x n
  · rw [if_pos hg, if_pos (e3.mpr hg)]
  · rw [if_neg hg, if_neg (fun q => hg (e3.mp q))]
theorem r_isP {σ : g_St} {P : Nat} (x : Int32) (hP : σ.1 79 0 = nI P) (h : P < 2 ^ 31) : m_X11_isPerson x σ = some (if g_in x P then 1 else 0, σ) := by
  unfold m_X11_isPerson
  rw [hP, r_inN x P h σ, Option.bind_some]
  by_cases hg : g_in x P <;> simp [hg, g_b01]
theorem r_isT {σ : g_St} {K : Nat} (x : Int32) (hK : σ.1 79 1 = nI K) (h : K < 2 ^ 31) : m_X11_isTicket x σ = some (if g_in x K then 1 else 0, σ) := by
  unfold m_X11_isTicket
  rw [hK, r_inN x K h σ, Option.bind_some]
  by_cases hg : g_in x K <;> simp [hg, g_b01]
theorem c_isP {σ : g_St} {P : Nat} (x : Int32) (hP : σ.1 13 2 = nI P) (h : P < 2 ^ 31) : m_X10_isPerson x σ = some (if g_in x P then 1 else 0, σ) := by
  unfold m_X10_isPerson
  rw [hP]
  by_cases h1 : x < 0
  · rw [if_pos h1, if_neg (fun q => (g_in_iff h).mp q (Or.inl h1))]
  · rw [if_neg h1]
    by_cases h2 : nI P ≤ x
    · rw [if_pos h2, if_neg (fun q => (g_in_iff h).mp q (Or.inr h2))]
    · rw [if_neg h2, if_pos ((g_in_iff h).mpr (fun q => q.elim h1 h2))]
theorem c_isT {σ : g_St} {K : Nat} (x : Int32) (hK : σ.1 13 3 = nI K) (h : K < 2 ^ 31) : m_X10_isTicket x σ = some (if g_in x K then 1 else 0, σ) := by
  unfold m_X10_isTicket
  rw [hK]
  by_cases h1 : x < 0
  · rw [if_pos h1, if_neg (fun q => (g_in_iff h).mp q (Or.inl h1))]
  · rw [if_neg h1]
    by_cases h2 : nI K ≤ x
    · rw [if_pos h2, if_neg (fun q => (g_in_iff h).mp q (Or.inr h2))]
    · rw [if_neg h2, if_pos ((g_in_iff h).mpr (fun q => q.elim h1 h2))]
theorem n10 : ¬ (1 : Int32) = 0 := by decide
abbrev dsLet (d : Dt) (l : List Nat) : Dt := (d.1, d.2.1, d.2.2.1, d.2.2.2.1, (l, d.2.2.2.2.2))
abbrev dsSeed (d : Dt) (s : Nat) : Dt := (d.1, (s, d.2.1.2), d.2.2)
theorem sp_fault : Sp m_X10_fault m_X11_fault := Sp_ro (fun d ok => ⟨dFa d, fun σ h => by unfold m_X10_fault; rw [h.2.2.2.2.2.2.2.2.2.2.2], fun σ h => by unfold m_X11_fault; rw [h.2.2.2.2.2.2.2.2.2.2.2]⟩)
theorem sp_seed (x : Int32) : Sp (m_X10_seed x) (m_X11_seed x) := by
  intro d ok
  by_cases hx : 0 ≤ x
  · obtain ⟨j, hj, rfl⟩ := nI_of (Int32.not_lt.mpr hx)
    obtain ⟨o1, o2, o3, o4⟩ := ok
    refine ⟨nI (dSeed d), dsSeed d j, ⟨o1, o2, ⟨hj, o3.2⟩, o4⟩, fun σ h => ?_, fun σ h => ?_⟩
    · obtain ⟨⟨a1, a2, a3⟩, h2, h3, h4⟩ := h
      refine ⟨g_sI σ 0 14 (nI j), ?_, ⟨⟨CT_k a1 (fun c _ _ => sI_o (by omega)), CN_k a2 (fun c _ _ => sI_o (by omega)), sI_k⟩, CCu_k h2 rfl rfl (fun c _ _ => sI_o (by omega)), CCk_k h3 rfl rfl (fun c _ _ => sI_o (by omega)), ?_⟩, keepR_I (by omega)⟩
      · unfold m_X10_seed g_lt; rw [if_pos hx, a3]
      · unfold CCs at *; simp (disch := omega) only [sI_o, sI_k, sI_n, sA_o, sA_s, sI_2, sA_2, sL_1, sL_o]; exact h4
    · obtain ⟨⟨a1, a2, a3⟩, h2, h3, h4⟩ := h
      refine ⟨g_sI σ 77 8 (nI j), ?_, ⟨⟨a1, a2, sI_k⟩, RRu_k h2 rfl rfl (sI_n (by omega)) (sI_o (by omega)), RRk_k h3 rfl rfl (sI_o (by omega)), ?_⟩, keepC_I (by omega)⟩
      · unfold m_X11_seed g_lt; rw [if_pos hx, a3]
      · unfold RRs at *; simp (disch := omega) only [sI_o, sI_k, sI_n, sA_o, sA_s, sI_2, sA_2, sL_1, sL_o]; exact h4
  · exact ⟨-1000000002, d, ok, fun σ h => ⟨σ, by unfold m_X10_seed; rw [if_neg hx], h, keepR_rf σ⟩, fun σ h => ⟨σ, by unfold m_X11_seed; rw [if_neg hx], h, keepC_rf σ⟩⟩
