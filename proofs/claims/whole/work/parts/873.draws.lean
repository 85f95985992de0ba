/-! one draw -/
def aged (a : Nat) : Nat := if a < 999 then a + 1 else a
theorem aged_le {a : Nat} (h : a ≤ 999) : aged a ≤ 999 := by unfold aged; split <;> omega
def leftS (R S t : Nat) : Nat := if R = 1 then S else cl S t
def ends (w : Tw) (R : Nat) (v : Nw) (t : Nat) : Bool := decide (nD v + 1 = tY w) || decide (leftS R (nS v) t = 0)
def drawn (w : Tw) (R : Nat) (v : Nw) (t : Nat) : Nw :=
  ((nY v + (if ends w R v t then 1 else 0), if ends w R v t then 0 else nD v + 1, if ends w R v t then 2 ^ tK w - 1 else leftS R (nS v) t),
    va_up (nA v) (who v t) (aged (nA v (who v t))), va_up (nC v) (who v t) (mn9 (nC v (who v t) + (aged (nA v (who v t)) / 10 + 1))), nH v, nL v, nP v)
/-- a moment that is in order, whatever its year -/
def NwO (w : Tw) (v : Nw) : Prop := nD v < tY w ∧ nS v < 2 ^ tK w ∧ (0 < tK w → 0 < nS v) ∧ (∀ p, p < tP w → nA v p ≤ 999 ∧ nC v p ≤ 9999) ∧ (∀ t, t < tK w → nH v t < tP w ∧ (∀ q, nL v t = some q → q < tP w) ∧ nP v t ≤ 99)
theorem NwOK.o {w : Tw} {v : Nw} (h : NwOK w v) : NwO w v := h.2
theorem NwO_who {w : Tw} {v : Nw} {t : Nat} (h : NwO w v) (ht : t < tK w) : who v t < tP w := by
  obtain ⟨a1, a2, a3⟩ := h.2.2.2.2 t ht
  unfold who
  cases e : nL v t with
  | none => exact a1
  | some q => exact a2 q e
theorem leftS_le {R S t : Nat} (hS : S < 256) (ht : t < 8) : leftS R S t ≤ S := by
  unfold leftS
  split
  · exact Nat.le_refl _
  · exact u_cl_lt S hS t ht
theorem drawn_ok {w : Tw} {R : Nat} {v : Nw} {t : Nat} (hw : TwOK w) (h : NwO w v) (ht : t < tK w) : NwO w (drawn w R v t) := by
  have hK : tK w ≤ 8 := hw.2.1
  have hY := hw.2.2.1
  obtain ⟨h1, h2, h3, h4, h5⟩ := h
  have hS : nS v < 256 := Nat.lt_of_lt_of_le h2 (pow8 hK)
  have hle := leftS_le (R := R) hS (show t < 8 by omega)
  have hpow : 0 < 2 ^ tK w := Nat.pow_pos (by omega)
  have hpow2 : 2 ≤ 2 ^ tK w := by
    have : 2 ^ 1 ≤ 2 ^ tK w := Nat.pow_le_pow_right (by omega) (by omega)
    omega
  refine ⟨?_, ?_, fun _ => ?_, fun p hp => ⟨?_, ?_⟩, h5⟩
  · show (if ends w R v t then 0 else nD v + 1) < tY w
    by_cases he : ends w R v t = true
    · rw [if_pos he]; omega
    · rw [if_neg he]
      have : ¬ nD v + 1 = tY w := fun q => he (by simp [ends, q])
      omega
  · show (if ends w R v t then 2 ^ tK w - 1 else leftS R (nS v) t) < 2 ^ tK w
    split <;> omega
  · show 0 < (if ends w R v t then 2 ^ tK w - 1 else leftS R (nS v) t)
    by_cases he : ends w R v t = true
    · rw [if_pos he]; omega
    · rw [if_neg he]
      have : ¬ leftS R (nS v) t = 0 := fun q => he (by simp [ends, q])
      omega
  · show va_up (nA v) (who v t) (aged (nA v (who v t))) p ≤ 999
    by_cases e : p = who v t
    · subst e; rw [g_up_s]; exact aged_le (h4 _ hp).1
    · rw [g_up_n _ _ e]; exact (h4 p hp).1
  · show va_up (nC v) (who v t) (mn9 (nC v (who v t) + (aged (nA v (who v t)) / 10 + 1))) p ≤ 9999
    by_cases e : p = who v t
    · subst e; rw [g_up_s]; exact mn9_le _
    · rw [g_up_n _ _ e]; exact (h4 p hp).2
theorem r_whoO {σ : g_St} {w : Tw} {v : Nw} {t : Nat} (hw : TwOK w) (hv : NwO w v) (h : RN w v (σ.1 81)) (ht : t < tK w) : m_X11_who (nI t) σ = some (nI (who v t), σ) := by
  have hP : tP w ≤ 6 := hw.1
  have hK : tK w ≤ 8 := hw.2.1
  obtain ⟨b1, b2, b3⟩ := h.2.2.2.2 t ht
  obtain ⟨a1, a2, a3⟩ := hv.2.2.2.2 t ht
  unfold m_X11_who g_lt
  dsimp only
  rw [e15a, if_pos (a_in (by omega) (by omega)), e15, nI_clamp (show 15 + 3 * t + 1 < 2 ^ 31 by omega), nI_clamp (show 15 + 3 * t < 2 ^ 31 by omega), b2, b1]
  unfold who
  cases e : nL v t with
  | none => rw [show plv none = -1 from rfl, if_pos rfl, if_pos (a_in (by omega) (by omega))]; rfl
  | some q =>
    have := a2 q e
    rw [show plv (some q) = nI q from rfl, if_neg (by rw [u_m1 (by omega)]; exact id)]
    rfl
theorem andm1 : ∀ S, S < 256 → nI S &&& (-1) = nI S := by decide +kernel
theorem div10 {a : Nat} (h : a ≤ 9999) : nI a / (10 : Int32) = nI (a / 10) := pk_div (d := 10) (by omega) (by omega) (by omega)
theorem r_draws {σ : g_St} {w : Tw} {v : Nw} {t R : Nat} (hw : TwOK w) (hv : NwO w v) (hy : nY v < 1000000) (hT : RT w (σ.1 79)) (h : RN w v (σ.1 81)) (ht : t < tK w) (hR : R ≤ 1) : ∃ τ, m_X11_draws (nI t) (nI R) σ = some τ ∧ RN w (drawn w R v t) (τ.1 81) ∧ (∀ c, c ≠ 81 → τ.1 c = σ.1 c) ∧ τ.2 = σ.2 := by
  have hP : tP w ≤ 6 := hw.1
  have hK : tK w ≤ 8 := hw.2.1
  have hY := hw.2.2.2.1
  have hpw := NwO_who hv ht
  have hS : nS v < 256 := Nat.lt_of_lt_of_le hv.2.1 (pow8 hK)
  obtain ⟨hd, hs, hs0, hac, hho⟩ := hv
  obtain ⟨g1, g2, g3, g4, g5⟩ := h
  obtain ⟨a1, a2⟩ := hac (who v t) hpw
  obtain ⟨c1, c2⟩ := g4 (who v t) hpw
  have hag := aged_le a1
  generalize hp : who v t = p at *
  have i1 : g_in (nI (3 + 2 * p)) 39 := a_in (by omega) (by omega)
  have i2 : g_in (nI (3 + 2 * p + 1)) 39 := a_in (by omega) (by omega)
  have k1 : (nI (3 + 2 * p)).toNatClampNeg = 3 + 2 * p := nI_clamp (by omega)
  have k2 : (nI (3 + 2 * p + 1)).toNatClampNeg = 3 + 2 * p + 1 := nI_clamp (by omega)
  have e1 : nI (3 + 2 * p) + (1 : Int32) = nI (3 + 2 * p + 1) := nI_1 _
  have j2 : g_in (2 : Int32) 39 := by decide
  have l2 : (2 : Int32).toNatClampNeg = 2 := rfl
  -- the drum, the draws, the year
  have e115 : ∀ (x : g_St) (m : Int32), nI (nS v) &&& m = nI (leftS R (nS v) t) → x.1 81 0 = nI (nY v) → x.1 81 1 = nI (nD v) → x.1 79 = σ.1 79 → ∃ τ, m_X11_draws_115 (2 : Int32) (nI (nS v)) m x = some τ ∧ τ.1 81 0 = nI (nY (drawn w R v t)) ∧ τ.1 81 1 = nI (nD (drawn w R v t)) ∧ τ.1 81 2 = nI (nS (drawn w R v t)) ∧ (∀ j, 3 ≤ j → τ.1 81 j = x.1 81 j) ∧ (∀ c, c ≠ 81 → τ.1 c = x.1 c) ∧ τ.2 = x.2 := by
    intro x m hm x0 x1 x79
    have e151 : m_X11_draws_151 (g_sI (g_sI x 81 2 (nI (leftS R (nS v) t))) 81 1 (nI (nD v + 1))) = some (g_sI (g_sI (g_sI (g_sI (g_sI x 81 2 (nI (leftS R (nS v) t))) 81 1 (nI (nD v + 1))) 81 2 (nI (2 ^ tK w - 1))) 81 0 (nI (nY v + 1))) 81 1 0) := by
      unfold m_X11_draws_151 m_X11_all g_lt
      rw [Option.bind_some]
      simp (disch := omega) only [sI_o, sI_k, sI_n, sA_o, sA_s, sI_2, sA_2, sL_1, sL_o]
      rw [x79, hT.2.1, u_all _ (by omega), x0, nI_1]
    unfold m_X11_draws_115 g_lt
    rw [if_pos j2, l2, hm]
    simp (disch := omega) only [sI_o, sI_k, sI_n, sA_o, sA_s, sI_2, sA_2, sL_1, sL_o]
    rw [x1, nI_1, x79, hT.2.2.1]
    by_cases q1 : nD v + 1 = tY w
    · have he : ends w R v t = true := by simp [ends, q1]
      rw [if_pos (by rw [q1]), e151]
      refine ⟨_, rfl, ?_, ?_, ?_, fun j hj => by simp (disch := omega) only [sI_o, sI_k, sI_n, sA_o, sA_s, sI_2, sA_2, sL_1, sL_o], fun c hc => by simp (disch := omega) only [sI_o, sI_k, sI_n, sA_o, sA_s, sI_2, sA_2, sL_1, sL_o], rfl⟩
      · simp (disch := omega) only [sI_o, sI_k, sI_n, sA_o, sA_s, sI_2, sA_2, sL_1, sL_o]; show _ = nI (nY v + (if ends w R v t then 1 else 0)); rw [if_pos he]
      · simp (disch := omega) only [sI_o, sI_k, sI_n, sA_o, sA_s, sI_2, sA_2, sL_1, sL_o]; show _ = nI (if ends w R v t then 0 else nD v + 1); rw [if_pos he]; rfl
      · simp (disch := omega) only [sI_o, sI_k, sI_n, sA_o, sA_s, sI_2, sA_2, sL_1, sL_o]; show _ = nI (if ends w R v t then 2 ^ tK w - 1 else leftS R (nS v) t); rw [if_pos he]
    · rw [if_neg (a_ne _ q1 (by omega) (by omega))]
      have hle := leftS_le (R := R) hS (show t < 8 by omega)
      by_cases q2 : leftS R (nS v) t = 0
      · have he : ends w R v t = true := by simp [ends, q2]
        rw [if_pos (show nI (leftS R (nS v) t) = 0 by rw [q2]; rfl), e151]
        refine ⟨_, rfl, ?_, ?_, ?_, fun j hj => by simp (disch := omega) only [sI_o, sI_k, sI_n, sA_o, sA_s, sI_2, sA_2, sL_1, sL_o], fun c hc => by simp (disch := omega) only [sI_o, sI_k, sI_n, sA_o, sA_s, sI_2, sA_2, sL_1, sL_o], rfl⟩
        · simp (disch := omega) only [sI_o, sI_k, sI_n, sA_o, sA_s, sI_2, sA_2, sL_1, sL_o]; show _ = nI (nY v + (if ends w R v t then 1 else 0)); rw [if_pos he]
        · simp (disch := omega) only [sI_o, sI_k, sI_n, sA_o, sA_s, sI_2, sA_2, sL_1, sL_o]; show _ = nI (if ends w R v t then 0 else nD v + 1); rw [if_pos he]; rfl
        · simp (disch := omega) only [sI_o, sI_k, sI_n, sA_o, sA_s, sI_2, sA_2, sL_1, sL_o]; show _ = nI (if ends w R v t then 2 ^ tK w - 1 else leftS R (nS v) t); rw [if_pos he]
      · have he : ¬ ends w R v t = true := by simp [ends, q1, q2]
        rw [if_neg (show ¬ nI (leftS R (nS v) t) = 0 from a_ne 0 q2 (by omega) (by omega))]
        refine ⟨_, rfl, ?_, ?_, ?_, fun j hj => by simp (disch := omega) only [sI_o, sI_k, sI_n, sA_o, sA_s, sI_2, sA_2, sL_1, sL_o], fun c hc => by simp (disch := omega) only [sI_o, sI_k, sI_n, sA_o, sA_s, sI_2, sA_2, sL_1, sL_o], rfl⟩
        · simp (disch := omega) only [sI_o, sI_k, sI_n, sA_o, sA_s, sI_2, sA_2, sL_1, sL_o]; show _ = nI (nY v + (if ends w R v t then 1 else 0)); rw [if_neg he]; exact x0
        · simp (disch := omega) only [sI_o, sI_k, sI_n, sA_o, sA_s, sI_2, sA_2, sL_1, sL_o]; show _ = nI (if ends w R v t then 0 else nD v + 1); rw [if_neg he]
        · simp (disch := omega) only [sI_o, sI_k, sI_n, sA_o, sA_s, sI_2, sA_2, sL_1, sL_o]; show _ = nI (if ends w R v t then 2 ^ tK w - 1 else leftS R (nS v) t); rw [if_neg he]
  -- the age and the coins
  have e34 : ∀ s3 : Int32, nI (nA v p) + s3 = nI (aged (nA v p)) → ∃ τ, m_X11_draws_34 (nI t) (nI R) (nI (3 + 2 * p)) (nI (3 + 2 * p)) (nI (nA v p)) s3 σ = some τ ∧ RN w (drawn w R v t) (τ.1 81) ∧ (∀ c, c ≠ 81 → τ.1 c = σ.1 c) ∧ τ.2 = σ.2 := by
    intro s3 hs3
    have e93 : ∀ x : g_St, x.1 81 0 = nI (nY v) → x.1 81 1 = nI (nD v) → x.1 81 2 = nI (nS v) → x.1 79 = σ.1 79 → (∀ c, c ≠ 81 → x.1 c = σ.1 c) → x.2 = σ.2 → x.1 81 (3 + 2 * p) = nI (aged (nA v p)) → (∀ j, 3 ≤ j → j ≠ 3 + 2 * p → j ≠ 3 + 2 * p + 1 → x.1 81 j = σ.1 81 j) → ∃ τ, m_X11_draws_93 (nI t) (nI R) (nI (3 + 2 * p + 1)) (nI (mn9 (nC v p + (aged (nA v p) / 10 + 1)))) x = some τ ∧ RN w (drawn w R v t) (τ.1 81) ∧ (∀ c, c ≠ 81 → τ.1 c = σ.1 c) ∧ τ.2 = σ.2 := by
      intro x x0 x1 x2 x79 xo xl xa xr
      have fin : ∀ m : Int32, nI (nS v) &&& m = nI (leftS R (nS v) t) → ∃ τ, m_X11_draws_115 (2 : Int32) ((g_sI x 81 (3 + 2 * p + 1) (nI (mn9 (nC v p + (aged (nA v p) / 10 + 1))))).1 81 2) m (g_sI x 81 (3 + 2 * p + 1) (nI (mn9 (nC v p + (aged (nA v p) / 10 + 1))))) = some τ ∧ RN w (drawn w R v t) (τ.1 81) ∧ (∀ c, c ≠ 81 → τ.1 c = σ.1 c) ∧ τ.2 = σ.2 := by
        intro m hm
        have e2 : (g_sI x 81 (3 + 2 * p + 1) (nI (mn9 (nC v p + (aged (nA v p) / 10 + 1))))).1 81 2 = nI (nS v) := by simp (disch := omega) only [sI_o, sI_k, sI_n, sA_o, sA_s, sI_2, sA_2, sL_1, sL_o]; exact x2
        rw [e2]
        obtain ⟨τ, t1, t2, t3, t4, t5, t6, t7⟩ := e115 (g_sI x 81 (3 + 2 * p + 1) (nI (mn9 (nC v p + (aged (nA v p) / 10 + 1))))) m hm (by simp (disch := omega) only [sI_o, sI_k, sI_n, sA_o, sA_s, sI_2, sA_2, sL_1, sL_o]; exact x0) (by simp (disch := omega) only [sI_o, sI_k, sI_n, sA_o, sA_s, sI_2, sA_2, sL_1, sL_o]; exact x1) (by simp (disch := omega) only [sI_o, sI_k, sI_n, sA_o, sA_s, sI_2, sA_2, sL_1, sL_o]; exact x79)
        refine ⟨τ, t1, ⟨t2, t3, t4, fun q hq => ⟨?_, ?_⟩, fun r hr => ?_⟩, fun c hc => by rw [t6 c hc, sI_o hc]; exact xo c hc, t7.trans xl⟩
        · show _ = nI (va_up (nA v) (who v t) (aged (nA v (who v t))) q)
          rw [hp, t5 _ (by omega), sI_n (by omega)]
          by_cases e : q = p
          · subst e; rw [g_up_s]; exact xa
          · rw [g_up_n _ _ e, xr _ (by omega) (by omega) (by omega)]; exact (g4 q hq).1
        · show _ = nI (va_up (nC v) (who v t) (mn9 (nC v (who v t) + (aged (nA v (who v t)) / 10 + 1))) q)
          rw [hp, t5 _ (by omega)]
          by_cases e : q = p
          · subst e; rw [g_up_s, sI_k]
          · rw [g_up_n _ _ e, sI_n (by omega), xr _ (by omega) (by omega) (by omega)]; exact (g4 q hq).2
        · have hr8 : r < tK w := hr
          refine ⟨?_, ?_, ?_⟩
          · rw [t5 _ (by omega), sI_n (by omega), xr _ (by omega) (by omega) (by omega)]; exact (g5 r hr).1
          · rw [t5 _ (by omega), sI_n (by omega), xr _ (by omega) (by omega) (by omega)]; exact (g5 r hr).2.1
          · rw [t5 _ (by omega), sI_n (by omega), xr _ (by omega) (by omega) (by omega)]; exact (g5 r hr).2.2
      unfold m_X11_draws_93 g_lt
      rw [if_pos i2, k2]
      dsimp only
      by_cases hR1 : R = 1
      · rw [if_pos (show nI R = (1 : Int32) by rw [hR1]; rfl)]
        exact fin (-1) (by rw [andm1 _ hS]; unfold leftS; rw [if_pos hR1])
      · rw [if_neg (show ¬ nI R = (1 : Int32) from a_ne 1 hR1 (by omega) (by omega))]
        exact fin _ (by rw [u_clr _ hS t (by omega)]; unfold leftS; rw [if_neg hR1])
    unfold m_X11_draws_34 g_lt
    rw [if_pos i1, k1, hs3]
    dsimp only
    rw [e1, if_pos i2, if_pos i1, if_pos i2, k2]
    simp (disch := omega) only [sI_o, sI_k, sI_n, sA_o, sA_s, sI_2, sA_2, sL_1, sL_o]
    rw [c2, div10 (by omega), nI_1, nI_add, if_pos i2]
    have hv9 := mn9_le (nC v p + (aged (nA v p) / 10 + 1))
    by_cases q : nC v p + (aged (nA v p) / 10 + 1) ≤ 9999
    · rw [if_pos (show nI (nC v p + (aged (nA v p) / 10 + 1)) ≤ (9999 : Int32) from a_le 9999 q (by omega)), if_pos i2]
      have e9 : mn9 (nC v p + (aged (nA v p) / 10 + 1)) = nC v p + (aged (nA v p) / 10 + 1) := by unfold mn9; split <;> omega
      have := e93 (g_sI (g_sI σ 81 (3 + 2 * p) (nI (aged (nA v p)))) 81 (3 + 2 * p + 1) (nI (nC v p + (aged (nA v p) / 10 + 1)))) (by simp (disch := omega) only [sI_o, sI_k, sI_n, sA_o, sA_s, sI_2, sA_2, sL_1, sL_o]; exact g1) (by simp (disch := omega) only [sI_o, sI_k, sI_n, sA_o, sA_s, sI_2, sA_2, sL_1, sL_o]; exact g2) (by simp (disch := omega) only [sI_o, sI_k, sI_n, sA_o, sA_s, sI_2, sA_2, sL_1, sL_o]; exact g3) (by simp (disch := omega) only [sI_o, sI_k, sI_n, sA_o, sA_s, sI_2, sA_2, sL_1, sL_o]) (fun c hc => by simp (disch := omega) only [sI_o, sI_k, sI_n, sA_o, sA_s, sI_2, sA_2, sL_1, sL_o]) rfl (by simp (disch := omega) only [sI_o, sI_k, sI_n, sA_o, sA_s, sI_2, sA_2, sL_1, sL_o]) (fun j h1 h2 h3 => by simp (disch := omega) only [sI_o, sI_k, sI_n, sA_o, sA_s, sI_2, sA_2, sL_1, sL_o])
      rw [e9] at this
      exact this
    · rw [if_neg (show ¬ nI (nC v p + (aged (nA v p) / 10 + 1)) ≤ (9999 : Int32) from a_nle 9999 (by omega) (by omega))]
      have e9 : mn9 (nC v p + (aged (nA v p) / 10 + 1)) = 9999 := by unfold mn9; split <;> omega
      have := e93 (g_sI (g_sI σ 81 (3 + 2 * p) (nI (aged (nA v p)))) 81 (3 + 2 * p + 1) (nI (nC v p + (aged (nA v p) / 10 + 1)))) (by simp (disch := omega) only [sI_o, sI_k, sI_n, sA_o, sA_s, sI_2, sA_2, sL_1, sL_o]; exact g1) (by simp (disch := omega) only [sI_o, sI_k, sI_n, sA_o, sA_s, sI_2, sA_2, sL_1, sL_o]; exact g2) (by simp (disch := omega) only [sI_o, sI_k, sI_n, sA_o, sA_s, sI_2, sA_2, sL_1, sL_o]; exact g3) (by simp (disch := omega) only [sI_o, sI_k, sI_n, sA_o, sA_s, sI_2, sA_2, sL_1, sL_o]) (fun c hc => by simp (disch := omega) only [sI_o, sI_k, sI_n, sA_o, sA_s, sI_2, sA_2, sL_1, sL_o]) rfl (by simp (disch := omega) only [sI_o, sI_k, sI_n, sA_o, sA_s, sI_2, sA_2, sL_1, sL_o]) (fun j h1 h2 h3 => by simp (disch := omega) only [sI_o, sI_k, sI_n, sA_o, sA_s, sI_2, sA_2, sL_1, sL_o])
      rw [e9] at this
      exact this
  unfold m_X11_draws g_lt
  rw [r_whoO hw ⟨hd, hs, hs0, hac, hho⟩ ⟨g1, g2, g3, g4, g5⟩ ht, Option.bind_some, hp]
  dsimp only
  rw [e3, if_pos i1, if_pos i1, k1, c1]
  by_cases q : 999 ≤ nA v p
  · rw [if_pos (show (999 : Int32) ≤ nI (nA v p) from a_le (a := 999) _ q (by omega))]
    exact e34 0 (by rw [show nI (nA v p) + (0 : Int32) = nI (nA v p) from nI_add _ 0]; unfold aged; rw [if_neg (by omega)])
  · rw [if_neg (show ¬ (999 : Int32) ≤ nI (nA v p) from a_nle (a := 999) _ (by omega) (by omega))]
    exact e34 1 (by rw [nI_1]; unfold aged; rw [if_pos (by omega)])
