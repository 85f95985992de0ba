/-! the class's clauses -/
theorem run_nums {N n c : Nat} {x : Nat → Nat} {S : Sx} (hn : n ≤ 250) (hS : SOK S) (hx8 : ∀ i, i < n → x i < 256) (hc : isW c) : ∀ j k a f σ, k + j = nOf c → a ≤ n → (∀ i, i < n → σ.1 1 i = nI (x i)) → QS S c k f σ → (∀ g e, nsR x n c (tP (sW S)) j k a f = .inr (g, e) → ∃ τ, QS S c (nOf c) g τ ∧ EF σ τ ∧ ∀ P, RunP N n e τ P → RunP N n a σ P) ∧ (∀ q p σ0, nsR x n c (tP (sW S)) j k a f = .inl (q, p) → EF σ0 σ → RunP N n a σ (RsF σ0 q p)) := by
  intro j
  induction j with
  | zero =>
    intro k a f σ hk ha hx hQ
    refine ⟨fun g e h => ?_, (fun q p σ0 h => by cases h)⟩
    cases h
    rw [Nat.add_zero] at hk
    rw [← hk]
    exact ⟨σ, hQ, EF_rf σ, fun P h => h⟩
  | succ j ih =>
    intro k a f σ hk ha hx hQ
    obtain ⟨n1, n2⟩ := run_num (N := N) hn ha hS hx hx8 hc (show k < nOf c by omega) hQ
    unfold nsR
    cases hr : num1 x n (rlo c k) (rhi c (tP (sW S)) k) a with
    | inl z =>
      obtain ⟨q', p'⟩ := z
      refine ⟨(fun g e h => by cases h), fun q p σ0 h hE => ?_⟩
      cases h
      exact n2 q' p' σ0 hr hE
    | inr ve =>
      obtain ⟨v, e1⟩ := ve
      obtain ⟨y, y1, y2, y3⟩ := n1 v e1 hr
      have hp := num1_p ha hr
      obtain ⟨i1, i2⟩ := ih (k + 1) e1 (va_up f k v) y (by omega) (by omega) (fun i hi => by rw [y2.1 1 (by omega)]; exact hx i hi) y1
      refine ⟨fun g e h => ?_, fun q p σ0 h hE => ?_⟩
      · obtain ⟨τ, t1, t2, t3⟩ := i1 g e h
        exact ⟨τ, t1, EF_tr y2 t2, fun P hP => y3 P (t3 P hP)⟩
      · exact y3 _ (i2 q p σ0 h (EF_tr hE y2))
theorem run_endw {N n c k : Nat} {S : Sx} {f : Nat → Nat} {σ0 σ : g_St} (hn : n ≤ 250) (hc : isW c) (hQ : QS S c k f σ) (hE : EF σ0 σ) : RunP N n n σ (RsF σ0 1 n) := fun fu hf => by
  obtain ⟨hCS, ⟨h3, h4, h5⟩, ⟨h10, h11⟩, h12⟩ := hQ
  have hc8 := isW_256 hc
  obtain ⟨fu, rfl⟩ : ∃ f, fu = f + 1 := ⟨fu - 1, by omega⟩
  have hc0 : ¬ σ.1 2 3 = 0 := by rw [h3]; exact nI_ne0 (by rcases hc with z | z | z | z <;> omega) (by omega)
  have e : m_X6_read_1_6 N (fu + 1) (nI n) (nI n) σ = m_X6_read_1_6 N (fu + 1) (nI n) (nI n) (g_sI (g_sI σ 2 10 1) 2 11 (nI n)) := by
    unfold m_X6_read_1_6
    rw [if_pos (a_le n (Nat.le_refl _) (by omega)), if_pos (a_le n (Nat.le_refl _) (by omega))]
    unfold m_X6_read_1_38
    rw [if_pos h10, cl_0 h5, Option.bind_some, if_neg (show ¬ (g_sI (g_sI σ 2 10 1) 2 11 (nI n)).1 2 10 = 0 by simp (disch := omega) only [sI_o, sI_k, sI_n, sA_o, sA_s, sI_2, sA_2, sL_1, sL_o]; decide)]
    unfold m_X6_read_1_49
    rw [if_pos h10, if_neg hc0, if_neg (show ¬ (g_sI (g_sI σ 2 10 1) 2 11 (nI n)).1 2 10 = 0 by simp (disch := omega) only [sI_o, sI_k, sI_n, sA_o, sA_s, sI_2, sA_2, sL_1, sL_o]; decide)]
    rfl
  rw [e]
  exact run_fault (N := N) hn (Nat.le_refl _) (EF_I (EF_I hE (by omega)) (by omega)) (by omega) (by omega) (by simp (disch := omega) only [sI_o, sI_k, sI_n, sA_o, sA_s, sI_2, sA_2, sL_1, sL_o]; rfl) (by simp (disch := omega) only [sI_o, sI_k, sI_n, sA_o, sA_s, sI_2, sA_2, sL_1, sL_o]) (fu + 1) (by omega)
theorem run_endT {N n : Nat} {S : Sx} {f : Nat → Nat} {σ0 σ : g_St} (hn : n ≤ 250) (hS : SOK S) (hQ : QS S 0 0 f σ) (hE : EF σ0 σ) : RunP N n n σ (RsT σ0 S) := fun fu hf => by
  obtain ⟨hCS, ⟨h3, h4, h5⟩, ⟨h10, h11⟩, h12⟩ := hQ
  have hK8 : tK (sW S) ≤ 8 := hS.1.2.1
  obtain ⟨fu, rfl⟩ : ∃ f, fu = f + 1 := ⟨fu - 1, by omega⟩
  refine ⟨g_sI σ 6 5 (nI (2 ^ tK (sW S) - 1)), ?_, by simp (disch := omega) only [sI_o, sI_k, sI_n, sA_o, sA_s, sI_2, sA_2, sL_1, sL_o]; exact h11, CS_k hCS (fun c c1 c2 c3 => sI_o c3) (by simp (disch := omega) only [sI_o, sI_k, sI_n, sA_o, sA_s, sI_2, sA_2, sL_1, sL_o]) (by simp (disch := omega) only [sI_o, sI_k, sI_n, sA_o, sA_s, sI_2, sA_2, sL_1, sL_o]), by simp (disch := omega) only [sI_o, sI_k, sI_n, sA_o, sA_s, sI_2, sA_2, sL_1, sL_o], fun c hc => ?_, fun j hj => ?_, by rw [sI_2]; exact hE.2⟩
  · unfold m_X6_read_1_6
    rw [if_pos (a_le n (Nat.le_refl _) (by omega))]
    unfold m_X6_read_1_38
    rw [if_pos h10, cl_0 h5, Option.bind_some]
    unfold m_X6_read_1_49
    rw [if_pos h10, if_pos (show σ.1 2 3 = 0 from h3)]
    unfold m_X6_read_1_69 m_X7_everyTicket_3 g_lt
    rw [Option.bind_some]
    dsimp only
    rw [hCS.1.2.1, u_all (tK (sW S)) (by omega), sI_o (by omega), h10]
  · rw [sI_o (by omega)]; exact hE.1 c (by omega)
  · rw [sI_n hj]; rw [hE.1 6 (by omega)]

theorem isW_n {c : Nat} (h : isW c) : nOf c ≠ 0 := by rcases h with e | e | e | e <;> subst e <;> decide
theorem nW_n {c : Nat} (h : ¬ isW c) : nOf c = 0 := by
  unfold isW at h
  unfold nOf
  rw [if_neg (fun z => h (by omega)), if_neg (fun z => h (by omega)), if_neg (fun z => h (by omega)), if_neg (fun z => h (by omega))]
theorem c_many {c : Nat} {S : Sx} {σ : g_St} (hS : SOK S) (hc : isW c) (hCS : CS S σ) : m_X6_isOneTooMany (nI c) σ = some (p01 (manyS c S), σ) := by
  obtain ⟨⟨w1, w2, w3, w4, w5, w6, w7, w8⟩, y1, y2, p1, t1⟩ := hS
  obtain ⟨⟨c1, c2, c3, c4⟩, ⟨c5, c6⟩, _⟩ := hCS
  unfold m_X6_isOneTooMany
  rcases hc with e | e | e | e <;> subst e
  · rw [if_pos (show nI 112 = (112 : Int32) from rfl), c1]
    by_cases q : tP (sW S) = 6
    · rw [if_neg (show ¬ nI (tP (sW S)) < (6 : Int32) from a_nlt 6 (by omega) (by omega)), p01_t (show manyS 112 S from Or.inl ⟨rfl, q⟩)]
    · rw [if_pos (show nI (tP (sW S)) < (6 : Int32) from a_lt 6 (by omega) (by omega)), p01_f (fun z => by unfold manyS at z; omega)]
  · rw [if_neg (show ¬ nI 116 = (112 : Int32) by decide), if_pos (show nI 116 = (116 : Int32) from rfl), c2]
    by_cases q : tK (sW S) = 8
    · rw [if_neg (show ¬ nI (tK (sW S)) < (8 : Int32) from a_nlt 8 (by omega) (by omega)), p01_t (show manyS 116 S from Or.inr (Or.inl ⟨rfl, q⟩))]
    · rw [if_pos (show nI (tK (sW S)) < (8 : Int32) from a_lt 8 (by omega) (by omega)), p01_f (fun z => by unfold manyS at z; omega)]
  · rw [if_neg (show ¬ nI 121 = (112 : Int32) by decide), if_neg (show ¬ nI 121 = (116 : Int32) by decide), if_pos (show nI 121 = (121 : Int32) from rfl), c5]
    rcases (show sYt S = 0 ∨ sYt S = 1 by omega) with q | q
    · rw [q, if_pos (show g_b01 (nI 0) by decide), p01_f (fun z => by unfold manyS at z; omega)]; rfl
    · rw [q, if_pos (show g_b01 (nI 1) by decide), p01_t (show manyS 121 S from Or.inr (Or.inr (Or.inl ⟨rfl, q⟩)))]; rfl
  · rw [if_neg (show ¬ nI 114 = (112 : Int32) by decide), if_neg (show ¬ nI 114 = (116 : Int32) by decide), if_neg (show ¬ nI 114 = (121 : Int32) by decide), c6]
    rcases (show sRt S = 0 ∨ sRt S = 1 by omega) with q | q
    · rw [q, if_pos (show g_b01 (nI 0) by decide), p01_f (fun z => by unfold manyS at z; omega)]; rfl
    · rw [q, if_pos (show g_b01 (nI 1) by decide), p01_t (show manyS 114 S from Or.inr (Or.inr (Or.inr ⟨rfl, q⟩)))]; rfl
/-- a clause is closed -/
theorem c_closeCl {c : Nat} {S : Sx} {f : Nat → Nat} {y : Int32} {σ : g_St} (hS : SOK S) (hc : isW c) (hm : ¬ manyS c S) (hf : ∀ i, i < nOf c → rlo c i ≤ f i ∧ f i < rhi c (tP (sW S)) i) (hQ : QS S c (nOf c) f σ) : ∃ τ, m_X6_closeClause y σ = some τ ∧ QS (addS c f S) 0 0 f τ ∧ EF σ τ := by
  have hc8 := isW_256 hc
  have hn4 := nOf_4 c
  obtain ⟨⟨w1, w2, w3, w4, w5, w6, w7, w8⟩, y1, y2, p1, t1⟩ := hS
  obtain ⟨hCS, ⟨h3, h4, h5⟩, ⟨h10, h11⟩, h12⟩ := hQ
  obtain ⟨⟨c1, c2, c3, c4⟩, ⟨c5, c6⟩, c7, c8, c9⟩ := hCS
  have hc0 : ¬ σ.1 2 3 = 0 := by rw [h3]; exact nI_ne0 (by rcases hc with z | z | z | z <;> omega) (by omega)
  have pre : m_X6_closeClause y σ = (if nI c = (112 : Int32) then ((m_X6_addPerson σ).bind fun σ10 => m_X6_closeClause_80 σ10)
   else (if nI c = (116 : Int32) then ((m_X6_addTicket σ).bind fun σ9 => m_X6_closeClause_80 σ9)
   else (if nI c = (121 : Int32) then ((m_X6_setYear σ).bind fun σ8 => m_X6_closeClause_80 σ8)
   else ((m_X6_setRights σ).bind fun σ7 => m_X6_closeClause_80 σ7)))) := by
    unfold m_X6_closeClause
    rw [if_neg hc0, h3, numbersOf_c hc8, Option.bind_some]
    dsimp only
    rw [h4, if_pos (a_le _ (Nat.le_refl _) (by omega)), h3]
  have e80 : ∀ s, m_X6_closeClause_80 s = some (g_sI (g_sI s 2 3 0) 2 4 0) := fun s => rfl
  rw [pre]
  unfold manyS at hm
  rcases hc with e | e | e | e <;> subst e
  · have hP : tP (sW S) < 6 := by omega
    have f0 : σ.1 12 0 = nI (f 0) := h12 0 (by decide)
    have f1 : σ.1 12 1 = nI (f 1) := h12 1 (by decide)
    have ea : m_X6_addPerson σ = some (g_sI (g_sI (g_sI σ 7 (tP (sW S)) (nI (f 0))) 8 (tP (sW S)) (nI (f 1))) 3 2 (nI (tP (sW S) + 1))) := by
      unfold m_X6_addPerson g_lt
      dsimp only
      simp (disch := omega) only [sI_o, sI_k, sI_n, sA_o, sA_s, sI_2, sA_2, sL_1, sL_o]
      rw [c1, if_pos (show nI (tP (sW S)) < (6 : Int32) from a_lt 6 (by omega) (by omega)), if_pos (a_in (by omega) (by omega)), if_pos (a_in (by omega) (by omega)), nI_clamp (by omega), f0, f1, nI_1]
    rw [if_pos (show nI 112 = (112 : Int32) from rfl), ea, Option.bind_some, e80]
    refine ⟨_, rfl, ⟨⟨⟨by simp (disch := omega) only [sI_o, sI_k, sI_n, sA_o, sA_s, sI_2, sA_2, sL_1, sL_o]; rfl, by simp (disch := omega) only [sI_o, sI_k, sI_n, sA_o, sA_s, sI_2, sA_2, sL_1, sL_o]; exact c2, by simp (disch := omega) only [sI_o, sI_k, sI_n, sA_o, sA_s, sI_2, sA_2, sL_1, sL_o]; exact c3, by simp (disch := omega) only [sI_o, sI_k, sI_n, sA_o, sA_s, sI_2, sA_2, sL_1, sL_o]; exact c4⟩, ⟨by simp (disch := omega) only [sI_o, sI_k, sI_n, sA_o, sA_s, sI_2, sA_2, sL_1, sL_o]; exact c5, by simp (disch := omega) only [sI_o, sI_k, sI_n, sA_o, sA_s, sI_2, sA_2, sL_1, sL_o]; exact c6⟩, fun r hr => by simp (disch := omega) only [sI_o, sI_k, sI_n, sA_o, sA_s, sI_2, sA_2, sL_1, sL_o]; exact c7 r hr, fun t ht => by simp (disch := omega) only [sI_o, sI_k, sI_n, sA_o, sA_s, sI_2, sA_2, sL_1, sL_o]; exact c8 t ht, fun p hp => ?_⟩, ⟨by simp (disch := omega) only [sI_o, sI_k, sI_n, sA_o, sA_s, sI_2, sA_2, sL_1, sL_o]; rfl, by simp (disch := omega) only [sI_o, sI_k, sI_n, sA_o, sA_s, sI_2, sA_2, sL_1, sL_o]; rfl, by simp (disch := omega) only [sI_o, sI_k, sI_n, sA_o, sA_s, sI_2, sA_2, sL_1, sL_o]; exact h5⟩, ⟨by simp (disch := omega) only [sI_o, sI_k, sI_n, sA_o, sA_s, sI_2, sA_2, sL_1, sL_o]; exact h10, by simp (disch := omega) only [sI_o, sI_k, sI_n, sA_o, sA_s, sI_2, sA_2, sL_1, sL_o]; exact h11⟩, fun i hi => by omega⟩, EF_I (EF_I (EF_I (EF_I (EF_I (EF_rf σ) (by omega)) (by omega)) (by omega)) (by omega)) (by omega)⟩
    have hp' : p < tP (sW S) + 1 := hp
    show _ = nI (va_up (sA S) (tP (sW S)) (f 0) p) ∧ _ = nI (va_up (sC S) (tP (sW S)) (f 1) p)
    by_cases e : p = tP (sW S)
    · rw [e, g_up_s, g_up_s]
      exact ⟨by simp (disch := omega) only [sI_o, sI_k, sI_n, sA_o, sA_s, sI_2, sA_2, sL_1, sL_o], by simp (disch := omega) only [sI_o, sI_k, sI_n, sA_o, sA_s, sI_2, sA_2, sL_1, sL_o]⟩
    · rw [g_up_n _ _ e, g_up_n _ _ e]
      have := c9 p (by omega)
      refine ⟨?_, ?_⟩
      · rw [sI_o (by omega), sI_o (by omega), sI_o (by omega), sI_o (by omega), sI_n e]; exact this.1
      · rw [sI_o (by omega), sI_o (by omega), sI_o (by omega), sI_n e, sI_o (by omega)]; exact this.2
  · have hK : tK (sW S) < 8 := by omega
    have f0 : σ.1 12 0 = nI (f 0) := h12 0 (by decide)
    have f1 : σ.1 12 1 = nI (f 1) := h12 1 (by decide)
    have f2 : σ.1 12 2 = nI (f 2) := h12 2 (by decide)
    have ea : m_X6_addTicket σ = some (g_sI (g_sI (g_sI (g_sI σ 9 (tK (sW S)) (nI (f 0))) 4 (tK (sW S)) (nI (f 1))) 11 (tK (sW S)) (nI (f 2))) 3 3 (nI (tK (sW S) + 1))) := by
      unfold m_X6_addTicket g_lt
      dsimp only
      simp (disch := omega) only [sI_o, sI_k, sI_n, sA_o, sA_s, sI_2, sA_2, sL_1, sL_o]
      rw [c2, if_pos (show nI (tK (sW S)) < (8 : Int32) from a_lt 8 (by omega) (by omega)), if_pos (a_in (by omega) (by omega)), if_pos (a_in (by omega) (by omega)), if_pos (a_in (by omega) (by omega)), nI_clamp (by omega), f0, f1, f2, nI_1]
    rw [if_neg (show ¬ nI 116 = (112 : Int32) by decide), if_pos (show nI 116 = (116 : Int32) from rfl), ea, Option.bind_some, e80]
    refine ⟨_, rfl, ⟨⟨⟨by simp (disch := omega) only [sI_o, sI_k, sI_n, sA_o, sA_s, sI_2, sA_2, sL_1, sL_o]; exact c1, by simp (disch := omega) only [sI_o, sI_k, sI_n, sA_o, sA_s, sI_2, sA_2, sL_1, sL_o]; rfl, by simp (disch := omega) only [sI_o, sI_k, sI_n, sA_o, sA_s, sI_2, sA_2, sL_1, sL_o]; exact c3, by simp (disch := omega) only [sI_o, sI_k, sI_n, sA_o, sA_s, sI_2, sA_2, sL_1, sL_o]; exact c4⟩, ⟨by simp (disch := omega) only [sI_o, sI_k, sI_n, sA_o, sA_s, sI_2, sA_2, sL_1, sL_o]; exact c5, by simp (disch := omega) only [sI_o, sI_k, sI_n, sA_o, sA_s, sI_2, sA_2, sL_1, sL_o]; exact c6⟩, fun r hr => by simp (disch := omega) only [sI_o, sI_k, sI_n, sA_o, sA_s, sI_2, sA_2, sL_1, sL_o]; exact c7 r hr, fun t ht => ?_, fun p hp => by simp (disch := omega) only [sI_o, sI_k, sI_n, sA_o, sA_s, sI_2, sA_2, sL_1, sL_o]; exact c9 p hp⟩, ⟨by simp (disch := omega) only [sI_o, sI_k, sI_n, sA_o, sA_s, sI_2, sA_2, sL_1, sL_o]; rfl, by simp (disch := omega) only [sI_o, sI_k, sI_n, sA_o, sA_s, sI_2, sA_2, sL_1, sL_o]; rfl, by simp (disch := omega) only [sI_o, sI_k, sI_n, sA_o, sA_s, sI_2, sA_2, sL_1, sL_o]; exact h5⟩, ⟨by simp (disch := omega) only [sI_o, sI_k, sI_n, sA_o, sA_s, sI_2, sA_2, sL_1, sL_o]; exact h10, by simp (disch := omega) only [sI_o, sI_k, sI_n, sA_o, sA_s, sI_2, sA_2, sL_1, sL_o]; exact h11⟩, fun i hi => by omega⟩, EF_I (EF_I (EF_I (EF_I (EF_I (EF_I (EF_rf σ) (by omega)) (by omega)) (by omega)) (by omega)) (by omega)) (by omega)⟩
    have ht' : t < tK (sW S) + 1 := ht
    show _ = nI (va_up (tW (sW S)) (tK (sW S)) (f 1) t) ∧ _ = nI (va_up (sH S) (tK (sW S)) (f 0) t) ∧ _ = nI (va_up (sPr S) (tK (sW S)) (f 2) t)
    by_cases e : t = tK (sW S)
    · rw [e, g_up_s, g_up_s, g_up_s]
      exact ⟨by simp (disch := omega) only [sI_o, sI_k, sI_n, sA_o, sA_s, sI_2, sA_2, sL_1, sL_o], by simp (disch := omega) only [sI_o, sI_k, sI_n, sA_o, sA_s, sI_2, sA_2, sL_1, sL_o], by simp (disch := omega) only [sI_o, sI_k, sI_n, sA_o, sA_s, sI_2, sA_2, sL_1, sL_o]⟩
    · rw [g_up_n _ _ e, g_up_n _ _ e, g_up_n _ _ e]
      have := c8 t (by omega)
      refine ⟨?_, ?_, ?_⟩
      · rw [sI_o (by omega), sI_o (by omega), sI_o (by omega), sI_o (by omega), sI_n e, sI_o (by omega)]; exact this.1
      · rw [sI_o (by omega), sI_o (by omega), sI_o (by omega), sI_o (by omega), sI_o (by omega), sI_n e]; exact this.2.1
      · rw [sI_o (by omega), sI_o (by omega), sI_o (by omega), sI_n e, sI_o (by omega), sI_o (by omega)]; exact this.2.2
  · have f0 : σ.1 12 0 = nI (f 0) := h12 0 (by decide)
    have f1 : σ.1 12 1 = nI (f 1) := h12 1 (by decide)
    have hf1 := (hf 1 (by decide)).2
    have hf1' : f 1 < 2 := hf1
    have ea : m_X6_setYear σ = some (g_sI (g_sI (g_sI σ 3 4 (nI (f 0))) 3 5 (nI (f 1))) 2 8 1) := by
      unfold m_X6_setYear m_X6_setYear_32 g_lt
      dsimp only
      simp (disch := omega) only [sI_o, sI_k, sI_n, sA_o, sA_s, sI_2, sA_2, sL_1, sL_o]
      rw [f0, f1]
      rcases (show f 1 = 0 ∨ f 1 = 1 by omega) with q | q
      · rw [q, if_neg (show ¬ nI 0 = (1 : Int32) by decide), if_pos (show g_b01 0 by decide)]; rfl
      · rw [q, if_pos (show nI 1 = (1 : Int32) from rfl), if_pos (show g_b01 1 by decide)]; rfl
    rw [if_neg (show ¬ nI 121 = (112 : Int32) by decide), if_neg (show ¬ nI 121 = (116 : Int32) by decide), if_pos (show nI 121 = (121 : Int32) from rfl), ea, Option.bind_some, e80]
    exact ⟨_, rfl, ⟨⟨⟨by simp (disch := omega) only [sI_o, sI_k, sI_n, sA_o, sA_s, sI_2, sA_2, sL_1, sL_o]; exact c1, by simp (disch := omega) only [sI_o, sI_k, sI_n, sA_o, sA_s, sI_2, sA_2, sL_1, sL_o]; exact c2, by simp (disch := omega) only [sI_o, sI_k, sI_n, sA_o, sA_s, sI_2, sA_2, sL_1, sL_o]; rfl, by simp (disch := omega) only [sI_o, sI_k, sI_n, sA_o, sA_s, sI_2, sA_2, sL_1, sL_o]; rfl⟩, ⟨by simp (disch := omega) only [sI_o, sI_k, sI_n, sA_o, sA_s, sI_2, sA_2, sL_1, sL_o]; rfl, by simp (disch := omega) only [sI_o, sI_k, sI_n, sA_o, sA_s, sI_2, sA_2, sL_1, sL_o]; exact c6⟩, fun r hr => by simp (disch := omega) only [sI_o, sI_k, sI_n, sA_o, sA_s, sI_2, sA_2, sL_1, sL_o]; exact c7 r hr, fun t ht => by simp (disch := omega) only [sI_o, sI_k, sI_n, sA_o, sA_s, sI_2, sA_2, sL_1, sL_o]; exact c8 t ht, fun p hp => by simp (disch := omega) only [sI_o, sI_k, sI_n, sA_o, sA_s, sI_2, sA_2, sL_1, sL_o]; exact c9 p hp⟩, ⟨by simp (disch := omega) only [sI_o, sI_k, sI_n, sA_o, sA_s, sI_2, sA_2, sL_1, sL_o]; rfl, by simp (disch := omega) only [sI_o, sI_k, sI_n, sA_o, sA_s, sI_2, sA_2, sL_1, sL_o]; rfl, by simp (disch := omega) only [sI_o, sI_k, sI_n, sA_o, sA_s, sI_2, sA_2, sL_1, sL_o]; exact h5⟩, ⟨by simp (disch := omega) only [sI_o, sI_k, sI_n, sA_o, sA_s, sI_2, sA_2, sL_1, sL_o]; exact h10, by simp (disch := omega) only [sI_o, sI_k, sI_n, sA_o, sA_s, sI_2, sA_2, sL_1, sL_o]; exact h11⟩, fun i hi => by omega⟩, EF_I (EF_I (EF_I (EF_I (EF_I (EF_rf σ) (by omega)) (by omega)) (by omega)) (by omega)) (by omega)⟩
  · have ea : m_X6_setRights σ = some (g_sI (g_sA σ 5 (va_cpy (σ.1 12) (σ.1 5) 0 0 4)) 2 9 1) := rfl
    rw [if_neg (show ¬ nI 114 = (112 : Int32) by decide), if_neg (show ¬ nI 114 = (116 : Int32) by decide), if_neg (show ¬ nI 114 = (121 : Int32) by decide), ea, Option.bind_some, e80]
    have hEA : EF σ (g_sA σ 5 (va_cpy (σ.1 12) (σ.1 5) 0 0 4)) := ⟨fun c hc => by rw [sA_o (by omega)], rfl⟩
    refine ⟨_, rfl, ⟨⟨⟨by simp (disch := omega) only [sI_o, sI_k, sI_n, sA_o, sA_s, sI_2, sA_2, sL_1, sL_o]; exact c1, by simp (disch := omega) only [sI_o, sI_k, sI_n, sA_o, sA_s, sI_2, sA_2, sL_1, sL_o]; exact c2, by simp (disch := omega) only [sI_o, sI_k, sI_n, sA_o, sA_s, sI_2, sA_2, sL_1, sL_o]; exact c3, by simp (disch := omega) only [sI_o, sI_k, sI_n, sA_o, sA_s, sI_2, sA_2, sL_1, sL_o]; exact c4⟩, ⟨by simp (disch := omega) only [sI_o, sI_k, sI_n, sA_o, sA_s, sI_2, sA_2, sL_1, sL_o]; exact c5, by simp (disch := omega) only [sI_o, sI_k, sI_n, sA_o, sA_s, sI_2, sA_2, sL_1, sL_o]; rfl⟩, fun r hr => ?_, fun t ht => by simp (disch := omega) only [sI_o, sI_k, sI_n, sA_o, sA_s, sI_2, sA_2, sL_1, sL_o]; exact c8 t ht, fun p hp => by simp (disch := omega) only [sI_o, sI_k, sI_n, sA_o, sA_s, sI_2, sA_2, sL_1, sL_o]; exact c9 p hp⟩, ⟨by simp (disch := omega) only [sI_o, sI_k, sI_n, sA_o, sA_s, sI_2, sA_2, sL_1, sL_o]; rfl, by simp (disch := omega) only [sI_o, sI_k, sI_n, sA_o, sA_s, sI_2, sA_2, sL_1, sL_o]; rfl, by simp (disch := omega) only [sI_o, sI_k, sI_n, sA_o, sA_s, sI_2, sA_2, sL_1, sL_o]; exact h5⟩, ⟨by simp (disch := omega) only [sI_o, sI_k, sI_n, sA_o, sA_s, sI_2, sA_2, sL_1, sL_o]; exact h10, by simp (disch := omega) only [sI_o, sI_k, sI_n, sA_o, sA_s, sI_2, sA_2, sL_1, sL_o]; exact h11⟩, fun i hi => by omega⟩, EF_I (EF_I (EF_I hEA (by omega)) (by omega)) (by omega)⟩
    rw [sI_o (by omega), sI_o (by omega), sI_o (by omega), sA_s, pk_cpy_in (by omega) (by omega), show 0 + (r - 0) = r by omega]
    exact h12 r hr
theorem fail_run {N n b : Nat} {x : Nat → Nat} {q : Nat} {σ0 σ : g_St} (hn : n ≤ 250) (hbn : b < n) (hx : σ.1 1 b = nI (x b)) (h10 : σ.1 2 10 = 0) (hE : EF σ0 σ) (hq1 : 1 ≤ q) (hq3 : q ≤ 3) (hfail : m_X6_takeLetter (nI (x b)) (nI b) σ = some (g_sI (g_sI σ 2 10 (nI q)) 2 11 (nI b))) : RunP N n b σ (RsF σ0 q b) :=
  run_step (x := x) hn hbn hx h10 hfail (run_fault hn (by omega) (EF_I (EF_I hE (by omega)) (by omega)) hq1 hq3 (by simp (disch := omega) only [sI_o, sI_k, sI_n, sA_o, sA_s, sI_2, sA_2, sL_1, sL_o]) (by simp (disch := omega) only [sI_o, sI_k, sI_n, sA_o, sA_s, sI_2, sA_2, sL_1, sL_o]))
theorem tf_no {c k : Nat} {g y : Int32} {σ : g_St} (hc8 : c < 256) (hk : nOf c ≤ k) (hk4 : k ≤ 4) (h3 : σ.1 2 3 = nI c) (h4 : σ.1 2 4 = nI k) (h5 : σ.1 2 5 = 0) : m_X6_takeFigure g y σ = some (g_sI (g_sI σ 2 10 1) 2 11 y) := by
  unfold m_X6_takeFigure
  rw [if_pos h5, h3, numbersOf_c hc8, Option.bind_some, h4]
  dsimp only
  rw [if_neg (a_nlt _ hk (by omega))]
  rfl
/-- a whole clause, from its first letter on -/
theorem run_clause {N n b : Nat} {x : Nat → Nat} {S : Sx} {f : Nat → Nat} {σ : g_St} (hn : n ≤ 250) (hbn : b < n) (hb32 : x b ≠ 32) (hS : SOK S) (hx : ∀ i, i < n → σ.1 1 i = nI (x i)) (hx8 : ∀ i, i < n → x i < 256) (hQ : QS S 0 0 f σ) : (∀ S' a', clS x n S b = .inr (S', a') → ∃ g τ, QS S' 0 0 g τ ∧ EF σ τ ∧ SOK S' ∧ b < a' ∧ a' ≤ n ∧ ∀ P, RunP N n a' τ P → RunP N n b σ P) ∧ (∀ q p σ0, clS x n S b = .inl (q, p) → EF σ0 σ → RunP N n b σ (RsF σ0 q p)) := by
  obtain ⟨hCS, ⟨h3, h4, h5⟩, ⟨h10, h11⟩, h12⟩ := hQ
  have hxb := hx8 b hbn
  have hf1 : m_X6_fail 1 (nI b) σ = some (g_sI (g_sI σ 2 10 1) 2 11 (nI b)) := rfl
  have hf3 : m_X6_fail 3 (nI b) σ = some (g_sI (g_sI σ 2 10 3) 2 11 (nI b)) := rfl
  unfold clS
  by_cases hw : isW (x b)
  · have hnd : isD (x b) = false := by rcases hw with e | e | e | e <;> rw [e] <;> decide
    have hw59 : ¬ nI (x b) = (59 : Int32) := a_ne 59 (by rcases hw with e | e | e | e <;> omega) (by omega) (by omega)
    have hw32 : ¬ nI (x b) = (32 : Int32) := a_ne 32 hb32 (by omega) (by omega)
    have pre : m_X6_takeLetter (nI (x b)) (nI b) σ = ((if p01 (manyS (x b) S) = 0 then some (g_sI (g_sI σ 2 3 (nI (x b))) 2 4 0) else some (g_sI (g_sI σ 2 10 3) 2 11 (nI b))).bind fun σ5 => some σ5) := by
      rw [tl_22 hxb hnd]
      unfold m_X6_takeLetter_22
      rw [cl_0 h5, Option.bind_some, if_pos h10, if_neg hw32, if_neg hw59]
      unfold m_X6_openClause g_lt
      rw [if_pos (show σ.1 2 3 = 0 from h3), numbersOf_c hxb, Option.bind_some]
      dsimp only
      rw [if_neg (nI_ne0 (by have := isW_n hw; omega) (by have := nOf_4 (x b); omega)), c_many hS hw hCS, Option.bind_some]
      dsimp only
      rw [hf3, Option.bind_some]
    rw [show (@ite (Sum (Nat × Nat) (Sx × Nat)) (isW (x b)) (Classical.propDecidable _) _ (.inl (1, b))) = _ from if_pos hw]
    by_cases hm : manyS (x b) S
    · rw [show (@ite (Sum (Nat × Nat) (Sx × Nat)) (manyS (x b) S) (Classical.propDecidable _) (.inl (3, b)) _) = _ from if_pos hm]
      refine ⟨(fun S' a' h => by cases h), fun q p σ0 h hE => ?_⟩
      cases h
      refine fail_run hn hbn (hx b hbn) h10 hE (by omega) (by omega) ?_
      rw [pre, p01_t hm, if_neg n10, Option.bind_some]
      rfl
    · rw [show (@ite (Sum (Nat × Nat) (Sx × Nat)) (manyS (x b) S) (Classical.propDecidable _) (.inl (3, b)) _) = _ from if_neg hm]
      have hstep : ∀ P, RunP N n (b + 1) (g_sI (g_sI σ 2 3 (nI (x b))) 2 4 0) P → RunP N n b σ P := fun P hr => by
        refine run_step (x := x) hn hbn (hx b hbn) h10 ?_ hr
        rw [pre, p01_f hm, if_pos rfl, Option.bind_some]
      have hE1 : EF σ (g_sI (g_sI σ 2 3 (nI (x b))) 2 4 0) := EF_I (EF_I (EF_rf σ) (by omega)) (by omega)
      have hQ1 : QS S (x b) 0 (fun _ => 0) (g_sI (g_sI σ 2 3 (nI (x b))) 2 4 0) := ⟨CS_k hCS (fun c c1 c2 c3 => by simp (disch := omega) only [sI_o, sI_k, sI_n, sA_o, sA_s, sI_2, sA_2, sL_1, sL_o]) (by simp (disch := omega) only [sI_o, sI_k, sI_n, sA_o, sA_s, sI_2, sA_2, sL_1, sL_o]) (by simp (disch := omega) only [sI_o, sI_k, sI_n, sA_o, sA_s, sI_2, sA_2, sL_1, sL_o]), ⟨by simp (disch := omega) only [sI_o, sI_k, sI_n, sA_o, sA_s, sI_2, sA_2, sL_1, sL_o], by simp (disch := omega) only [sI_o, sI_k, sI_n, sA_o, sA_s, sI_2, sA_2, sL_1, sL_o]; rfl, by simp (disch := omega) only [sI_o, sI_k, sI_n, sA_o, sA_s, sI_2, sA_2, sL_1, sL_o]; exact h5⟩, ⟨by simp (disch := omega) only [sI_o, sI_k, sI_n, sA_o, sA_s, sI_2, sA_2, sL_1, sL_o]; exact h10, by simp (disch := omega) only [sI_o, sI_k, sI_n, sA_o, sA_s, sI_2, sA_2, sL_1, sL_o]; exact h11⟩, fun i hi => by omega⟩
      obtain ⟨n1, n2⟩ := run_nums (N := N) hn hS hx8 hw (nOf (x b)) 0 (b + 1) (fun _ => 0) _ (by omega) (by omega) (fun i hi => by simp (disch := omega) only [sI_o, sI_k, sI_n, sA_o, sA_s, sI_2, sA_2, sL_1, sL_o]; exact hx i hi) hQ1
      cases hr : nsR x n (x b) (tP (sW S)) (nOf (x b)) 0 (b + 1) (fun _ => 0) with
      | inl z =>
        obtain ⟨q', p'⟩ := z
        dsimp only
        refine ⟨(fun S' a' h => by cases h), fun q p σ0 h hE => ?_⟩
        cases h
        exact hstep _ (n2 _ _ σ0 hr (EF_tr hE hE1))
      | inr ga =>
        obtain ⟨g, a⟩ := ga
        dsimp only
        obtain ⟨y, y1, y2, y3⟩ := n1 g a hr
        obtain ⟨r1, r2, r3, r4⟩ := nsR_p _ _ _ _ _ _ (show b + 1 ≤ n by omega) hr
        obtain ⟨s1, s2, s3, s4⟩ := skp_p (x := x) (n := n) _ a (Nat.le_refl _) r2
        have hxy : ∀ i, i < n → y.1 1 i = nI (x i) := fun i hi => by rw [y2.1 1 (by omega)]; simp (disch := omega) only [sI_o, sI_k, sI_n, sA_o, sA_s, sI_2, sA_2, sL_1, sL_o]; exact hx i hi
        have hto : ∀ P, RunP N n (skp x n a) y P → RunP N n b σ P := fun P hP => hstep P (y3 P (run_skip hn hxy y1.2.2.1.1 y1.2.1.2.2 _ a (Nat.le_refl _) hP))
        have hEy : EF σ y := EF_tr hE1 y2
        have hfg : ∀ i, i < nOf (x b) → rlo (x b) i ≤ g i ∧ g i < rhi (x b) (tP (sW S)) i := fun i hi => r4 i (by omega) (by omega)
        by_cases hc : skp x n a < n ∧ x (skp x n a) = 59
        · rw [if_pos hc]
          refine ⟨fun S' a' h => ?_, (fun q p σ0 h => by cases h)⟩
          cases h
          obtain ⟨τ, t1, t2, t3⟩ := c_closeCl (y := nI (skp x n a)) hS hw hm hfg y1
          refine ⟨g, τ, t2, EF_tr hEy t3, addS_ok hS hw hm hfg, by omega, by omega, fun P hP => hto P (run_step (x := x) hn hc.1 (hxy _ hc.1) y1.2.2.1.1 ?_ hP)⟩
          rw [hc.2, tl_22 (by omega) (by decide)]
          unfold m_X6_takeLetter_22
          rw [cl_0 y1.2.1.2.2, Option.bind_some, if_pos y1.2.2.1.1, if_neg (show ¬ nI 59 = (32 : Int32) by decide), if_pos (show nI 59 = (59 : Int32) from rfl), t1, Option.bind_some]
        · rw [if_neg hc]
          refine ⟨(fun S' a' h => by cases h), fun q p σ0 h hE => ?_⟩
          cases h
          refine hto _ ?_
          by_cases hn' : skp x n a < n
          · refine fail_run hn hn' (hxy _ hn') y1.2.2.1.1 (EF_tr hE hEy) (by omega) (by omega) ?_
            have hx59 : ¬ nI (x (skp x n a)) = (59 : Int32) := a_ne 59 (fun z => hc ⟨hn', z⟩) (by have := hx8 _ hn'; omega) (by omega)
            have hx32 : ¬ nI (x (skp x n a)) = (32 : Int32) := a_ne 32 (s3 hn') (by have := hx8 _ hn'; omega) (by omega)
            cases hd : isD (x (skp x n a)) with
            | true =>
              rw [tl_d hd, tf_no hxb (Nat.le_refl _) (nOf_4 _) y1.2.1.1 y1.2.1.2.1 y1.2.1.2.2, Option.bind_some]
              rfl
            | false =>
              have hc0 : ¬ y.1 2 3 = 0 := by rw [y1.2.1.1]; exact nI_ne0 (by rcases hw with z | z | z | z <;> omega) (by omega)
              rw [tl_22 (hx8 _ hn') hd]
              unfold m_X6_takeLetter_22
              rw [cl_0 y1.2.1.2.2, Option.bind_some, if_pos y1.2.2.1.1, if_neg hx32, if_neg hx59]
              unfold m_X6_openClause m_X6_openClause_14
              rw [if_neg hc0]
              rfl
          · rw [show skp x n a = n by omega]
            exact run_endw hn hw y1 (EF_tr hE hEy)
  · rw [show (@ite (Sum (Nat × Nat) (Sx × Nat)) (isW (x b)) (Classical.propDecidable _) _ (.inl (1, b))) = _ from if_neg hw]
    refine ⟨(fun S' a' h => by cases h), fun q p σ0 h hE => ?_⟩
    cases h
    refine fail_run hn hbn (hx b hbn) h10 hE (by omega) (by omega) ?_
    have hx32 : ¬ nI (x b) = (32 : Int32) := a_ne 32 hb32 (by omega) (by omega)
    cases hd : isD (x b) with
    | true =>
      rw [tl_d hd, tf_no (c := 0) (k := 0) (by omega) (by decide) (by omega) h3 h4 h5, Option.bind_some]
      rfl
    | false =>
      rw [tl_22 hxb hd]
      unfold m_X6_takeLetter_22
      rw [cl_0 h5, Option.bind_some, if_pos h10, if_neg hx32]
      have e1 : m_X6_closeClause (nI b) σ = some (g_sI (g_sI σ 2 10 1) 2 11 (nI b)) := by
        unfold m_X6_closeClause m_X6_closeClause_21
        rw [if_pos (show σ.1 2 3 = 0 from h3), hf1, Option.bind_some]
      have e2 : m_X6_openClause (nI (x b)) (nI b) σ = some (g_sI (g_sI σ 2 10 1) 2 11 (nI b)) := by
        unfold m_X6_openClause m_X6_openClause_14
        rw [if_pos (show σ.1 2 3 = 0 from h3), numbersOf_c hxb, Option.bind_some, nW_n hw]
        dsimp only
        rw [if_pos (show nI 0 = 0 from rfl), hf1, Option.bind_some]
      rw [e1, e2, ite_self, Option.bind_some]
      rfl
theorem run_prs {N n : Nat} {x : Nat → Nat} {σ0 : g_St} (hn : n ≤ 250) (hx8 : ∀ i, i < n → x i < 256) : ∀ m a S f σ, n - a < m → a ≤ n → SOK S → (∀ i, i < n → σ.1 1 i = nI (x i)) → QS S 0 0 f σ → EF σ0 σ → RunP N n a σ (Rs σ0 (prs x n m a S)) := by
  intro m
  induction m with
  | zero => intro a S f σ h; omega
  | succ m ih =>
    intro a S f σ h ha hS hx hQ hE
    obtain ⟨s1, s2, s3, s4⟩ := skp_p (x := x) (n := n) _ a (Nat.le_refl _) ha
    refine run_skip hn hx hQ.2.2.1.1 hQ.2.1.2.2 _ a (Nat.le_refl _) ?_
    unfold prs
    by_cases hb : skp x n a < n
    · rw [if_pos hb]
      obtain ⟨n1, n2⟩ := run_clause (N := N) hn hb (s3 hb) hS hx hx8 hQ
      cases hr : clS x n S (skp x n a) with
      | inl z =>
        obtain ⟨q, p⟩ := z
        exact n2 q p σ0 hr hE
      | inr z =>
        obtain ⟨S', a'⟩ := z
        obtain ⟨g, τ, t1, t2, t3, t4, t5, t6⟩ := n1 S' a' hr
        exact t6 _ (ih a' S' g τ (by omega) t5 t3 (fun i hi => by rw [t2.1 1 (by omega)]; exact hx i hi) t1 (EF_tr hE t2))
    · rw [if_neg hb, show skp x n a = n by omega]
      exact run_endT hn hS hQ hE
