/-! evens -/
theorem c_spr76_loop {σ : g_St} {P N : Nat} {a : Nat → Nat} (hP6 : P ≤ 6) (ha : ∀ p, p < P → σ.1 76 p = nI (a p)) (hb : ∀ p, p < P → a p ≤ 999) : ∀ d p fu, 0 < p → p + d = P → d < fu → m_X10_spreadOf_76_18 N fu (nI P) (nI (mnA a p)) (nI (mxA a p)) (nI p) σ = some (nI (sprd a P), σ) := by
  intro d
  induction d with
  | zero =>
    intro p fu h0 hp hf
    obtain ⟨fu, rfl⟩ : ∃ f, fu = f + 1 := ⟨fu - 1, by omega⟩
    unfold m_X10_spreadOf_76_18
    rw [if_pos (a_le p (by omega) (by omega))]
    have e : p = P := by omega
    subst e
    unfold sprd
    rw [if_neg (by omega)]
    rcases mn_mx a p (by omega) with h | h
    · rw [pk_sub h]
    · have := hb 0 (by omega); omega
  | succ d ih =>
    intro p fu h0 hp hf
    obtain ⟨fu, rfl⟩ : ∃ f, fu = f + 1 := ⟨fu - 1, by omega⟩
    have hn := ih (p + 1) fu (by omega) (by omega) (by omega)
    have h1 := mnA_le a p
    have h2 := mxA_le (a := a) p (fun q hq => hb q (by omega))
    have h3 := hb p (by omega)
    unfold m_X10_spreadOf_76_18 g_lt
    rw [if_neg (a_nle (a := P) p (by omega) (by omega)), if_pos (a_in (by omega) (by omega)), nI_clamp (by omega), ha p (by omega)]
    dsimp only
    rw [if_pos (a_in (by omega) (by omega)), nI_1]
    rw [show mnA a (p + 1) = if a p < mnA a p then a p else mnA a p from rfl, show mxA a (p + 1) = if mxA a p < a p then a p else mxA a p from rfl] at hn
    by_cases c1 : a p < mnA a p
    · rw [if_pos (a_lt (a := a p) (mnA a p) (by omega) (by omega))]
      rw [if_pos c1] at hn
      by_cases c2 : mxA a p < a p
      · rw [if_pos (a_lt (a := mxA a p) (a p) (by omega) (by omega))]
        rw [if_pos c2] at hn
        exact hn
      · rw [if_neg (a_nlt (a := mxA a p) (a p) (by omega) (by omega))]
        rw [if_neg c2] at hn
        exact hn
    · rw [if_neg (a_nlt (a := a p) (mnA a p) (by omega) (by omega))]
      rw [if_neg c1] at hn
      by_cases c2 : mxA a p < a p
      · rw [if_pos (a_lt (a := mxA a p) (a p) (by omega) (by omega))]
        rw [if_pos c2] at hn
        exact hn
      · rw [if_neg (a_nlt (a := mxA a p) (a p) (by omega) (by omega))]
        rw [if_neg c2] at hn
        exact hn
theorem c_spr76 {σ : g_St} {P N : Nat} {a : Nat → Nat} (hP6 : P ≤ 6) (ha : ∀ p, p < P → σ.1 76 p = nI (a p)) (hb : ∀ p, p < P → a p ≤ 999) (hN : 8 < N) : m_X10_spreadOf_76 N (nI P) σ = some (nI (sprd a P), σ) := by
  unfold m_X10_spreadOf_76 g_lt
  by_cases h0 : P = 0
  · subst h0
    rfl
  · have q : (1 : Int32) ≤ nI P := a_le (a := 1) P (by omega) (by omega)
    rw [if_pos q, ha 0 (by omega)]
    have h1 := hb 0 (by omega)
    have e1 : mnA a 1 = a 0 := by rw [show mnA a 1 = if a 0 < 9999 then a 0 else 9999 from rfl, if_pos (by omega)]
    have e2 : mxA a 1 = a 0 := by
      rw [show mxA a 1 = if 0 < a 0 then a 0 else 0 from rfl]
      by_cases h : 0 < a 0
      · rw [if_pos h]
      · rw [if_neg h]; omega
    have h := c_spr76_loop (N := N) hP6 ha hb (P - 1) 1 N (by omega) (by omega) (by omega)
    rw [e1, e2] at h
    exact h

noncomputable def runV (w : Tw) (R : Nat) : Nat → Nat → Nat → Nw → Nw
  | 0, _, _, v => v
  | f + 1, e, s, v => if e ≤ nY v then v else runV w R f e (nxs s) (drawn w R v (lotT w (nS v) (nxs s)))
theorem runV_s (w : Tw) (R f e s : Nat) (v : Nw) : runV w R (f + 1) e s v = if e ≤ nY v then v else runV w R f e (nxs s) (drawn w R v (lotT w (nS v) (nxs s))) := rfl
theorem runV_end {w : Tw} {R e : Nat} {v : Nw} (h : e ≤ nY v) : ∀ f s, runV w R f e s v = v
  | 0, _ => rfl
  | f + 1, s => by rw [runV_s, if_pos h]
/-- a draw ends the year, or it does not -/
theorem drawn_cases {w : Tw} {R t : Nat} {v : Nw} (h : NwO w v) : (ends w R v t = true ∧ nY (drawn w R v t) = nY v + 1 ∧ nD (drawn w R v t) = 0 ∧ nS (drawn w R v t) = 2 ^ tK w - 1) ∨ (ends w R v t = false ∧ nY (drawn w R v t) = nY v ∧ nD (drawn w R v t) = nD v + 1 ∧ nD v + 1 < tY w ∧ nS (drawn w R v t) = leftS R (nS v) t ∧ leftS R (nS v) t ≠ 0) := by
  have e1 : nY (drawn w R v t) = nY v + (if ends w R v t then 1 else 0) := rfl
  have e2 : nD (drawn w R v t) = if ends w R v t then 0 else nD v + 1 := rfl
  have e3 : nS (drawn w R v t) = if ends w R v t then 2 ^ tK w - 1 else leftS R (nS v) t := rfl
  have hd := h.1
  by_cases he : ends w R v t = true
  · rw [if_pos he] at e1 e2 e3
    exact Or.inl ⟨he, e1, e2, e3⟩
  · rw [if_neg he] at e1 e2 e3
    have n1 : ¬ nD v + 1 = tY w := fun q => he (by simp [ends, q])
    have n2 : ¬ leftS R (nS v) t = 0 := fun q => he (by simp [ends, q])
    exact Or.inr ⟨by simpa using he, e1, e2, by omega, e3, n2⟩
theorem meas_step {w : Tw} {R t e f : Nat} {v : Nw} (hw : TwOK w) (h : NwO w v) (he : nY v < e) (hm : (e - nY v) * 8 - nD v ≤ f + 1) : (e - nY (drawn w R v t)) * 8 - nD (drawn w R v t) ≤ f := by
  have hY := hw.2.2.2.1
  have hd := h.1
  rcases drawn_cases (R := R) (t := t) h with ⟨_, a1, a2, _⟩ | ⟨_, a1, a2, a3, _⟩
  · rw [a1, a2]
    generalize nY v = y at *
    generalize nD v = x at *
    omega
  · rw [a1, a2]
    generalize nY v = y at *
    generalize nD v = x at *
    omega
theorem meas_pos {w : Tw} {e : Nat} {v : Nw} (hw : TwOK w) (h : NwO w v) (hm : (e - nY v) * 8 - nD v ≤ 0) : e ≤ nY v := by
  have hY := hw.2.2.2.1
  have hd := h.1
  generalize nY v = y at *
  generalize nD v = x at *
  omega
theorem r_runs_loop {w : Tw} {R N e was : Nat} (hw : TwOK w) (hK : 0 < tK w) (hR : R ≤ 1) (hN : 200 < N) (he : e < 1000000) : ∀ f v s σ fu, NwO w v → s < 2 ^ 31 → (e - nY v) * 8 - nD v ≤ f → nY v ≤ e → RT w (σ.1 79) → RN w v (σ.1 81) → σ.1 77 8 = nI s → f < fu → ∃ τ, m_X11_runs_32 N fu (nI R) (nI was) (nI e) σ = some (nI (sprd (nA (runV w R f e s v)) (tP w)), τ) ∧ (∀ j, j < 39 → τ.1 81 j = σ.1 86 j) ∧ (∀ c, c ≠ 77 → c ≠ 81 → τ.1 c = σ.1 c) ∧ τ.1 77 8 = nI was ∧ (∀ j, j ≠ 8 → τ.1 77 j = σ.1 77 j) ∧ τ.2 = σ.2 := by
  have hP := hw.1
  have fin : ∀ v σ fu f s, NwO w v → e ≤ nY v → nY v ≤ e → RT w (σ.1 79) → RN w v (σ.1 81) → ∃ τ, m_X11_runs_32 N (fu + 1) (nI R) (nI was) (nI e) σ = some (nI (sprd (nA (runV w R f e s v)) (tP w)), τ) ∧ (∀ j, j < 39 → τ.1 81 j = σ.1 86 j) ∧ (∀ c, c ≠ 77 → c ≠ 81 → τ.1 c = σ.1 c) ∧ τ.1 77 8 = nI was ∧ (∀ j, j ≠ 8 → τ.1 77 j = σ.1 77 j) ∧ τ.2 = σ.2 := by
    intro v σ fu f s hv h1 h2 hT hR
    refine ⟨g_sI (cpS σ 81 86 0 0 0 39) 77 8 (nI was), ?_, fun j hj => ?_, fun c c1 c2 => ?_, sI_k, fun j hj => ?_, rfl⟩
    · unfold m_X11_runs_32 g_lt
      rw [hR.1, if_pos (a_le (nY v) h1 (by omega)), r_spr hT.1 hP (fun p hp => (hR.2.2.2.1 p hp).1) (fun p hp => (hv.2.2.2.1 p hp).1) (by omega), Option.bind_some]
      dsimp only
      rw [r_backs (by omega), Option.bind_some, runV_end h1]
    · rw [sI_o (by omega)]
      have e := cpS_at (σ := σ) (c := 81) (c' := 86) (o := 0) (o' := 0) (n := 39) hj
      rw [Nat.zero_add] at e
      exact e
    · rw [sI_o c1, cpS_o c2]
    · rw [sI_n hj, cpS_o (by omega)]
  intro f
  induction f with
  | zero =>
    intro v s σ fu hv hs hm hye hT hRN h8 hf
    obtain ⟨fu, rfl⟩ : ∃ f, fu = f + 1 := ⟨fu - 1, by omega⟩
    exact fin v σ fu 0 s hv (meas_pos hw hv hm) hye hT hRN
  | succ f ih =>
    intro v s σ fu hv hs hm hye hT hRN h8 hf
    obtain ⟨fu, rfl⟩ : ∃ f, fu = f + 1 := ⟨fu - 1, by omega⟩
    by_cases hend : e ≤ nY v
    · exact fin v σ fu (f + 1) s hv hend hye hT hRN
    · have hl := lotT_ok (s := nxs s) hw hv.2.1 (hv.2.2.1 hK)
      have hlo := r_lotT (N := N) hw hT hRN.2.2.1 h8 hv.2.1 (hv.2.2.1 hK) hs (by omega)
      obtain ⟨x, x1, x2, x3, x4⟩ := r_draws (σ := g_sI σ 77 8 (nI (nxs s))) (t := lotT w (nS v) (nxs s)) (R := R) hw hv (by omega) (by simp (disch := omega) only [sI_o, sI_k, sI_n, sA_o, sA_s, sI_2, sA_2, sL_1, sL_o]; exact hT) (by simp (disch := omega) only [sI_o, sI_k, sI_n, sA_o, sA_s, sI_2, sA_2, sL_1, sL_o]; exact hRN) hl.1 hR
      have hy2 := drawn_year w R v (lotT w (nS v) (nxs s))
      obtain ⟨τ, t1, t2, t3, t4, t5, t6⟩ := ih (drawn w R v (lotT w (nS v) (nxs s))) (nxs s) x fu (drawn_ok hw hv hl.1) (nxs_lt s) (meas_step hw hv (by omega) hm) (by omega) (by rw [x3 79 (by omega)]; simp (disch := omega) only [sI_o, sI_k, sI_n, sA_o, sA_s, sI_2, sA_2, sL_1, sL_o]; exact hT) x2 (by rw [x3 77 (by omega)]; simp (disch := omega) only [sI_o, sI_k, sI_n, sA_o, sA_s, sI_2, sA_2, sL_1, sL_o]) (by omega)
      rw [runV_s, if_neg hend]
      refine ⟨τ, ?_, fun j hj => ?_, fun c c1 c2 => ?_, t4, fun j hj => ?_, ?_⟩
      · unfold m_X11_runs_32
        rw [hRN.1, if_neg (a_nle (a := e) (nY v) (by omega) (by omega)), hlo, Option.bind_some]
        dsimp only
        rw [x1, Option.bind_some, t1]
      · rw [t2 j hj, x3 86 (by omega)]; simp (disch := omega) only [sI_o, sI_k, sI_n, sA_o, sA_s, sI_2, sA_2, sL_1, sL_o]
      · rw [t3 c c1 c2, x3 c c2]; simp (disch := omega) only [sI_o, sI_k, sI_n, sA_o, sA_s, sI_2, sA_2, sL_1, sL_o]
      · rw [t5 j hj, x3 77 (by omega)]; simp (disch := omega) only [sI_o, sI_k, sI_n, sA_o, sA_s, sI_2, sA_2, sL_1, sL_o]
      · rw [t6, x4]; rfl
/-- the moment at which a trial of years begins -/
abbrev vRun (w : Tw) (v : Nw) : Nw := ((nY v, 0, 2 ^ tK w - 1), v.2)
theorem vRun_ok {w : Tw} {v : Nw} (hw : TwOK w) (h : NwO w v) (hK : 0 < tK w) : NwO w (vRun w v) := by
  have hpow2 : 2 ≤ 2 ^ tK w := by
    have : 2 ^ 1 ≤ 2 ^ tK w := Nat.pow_le_pow_right (by omega) (by omega)
    omega
  have hY := hw.2.2.1
  refine ⟨?_, ?_, fun _ => ?_, h.2.2.2.1, h.2.2.2.2⟩
  · show 0 < tY w; omega
  · show 2 ^ tK w - 1 < 2 ^ tK w; omega
  · show 0 < 2 ^ tK w - 1; omega
theorem r_runs {w : Tw} {v : Nw} {R N n s : Nat} {σ : g_St} (hw : TwOK w) (hv : NwO w v) (hK : 0 < tK w) (hR : R ≤ 1) (hN : 200 < N) (hn : n ≤ 20) (hy : nY v ≤ 90200) (hs : s < 2 ^ 31) (hT : RT w (σ.1 79)) (hRN : RN w v (σ.1 81)) (h8 : σ.1 77 8 = nI s) : ∃ τ, m_X11_runs N (nI n) (nI R) σ = some (nI (sprd (nA (runV w R 160 (nY v + n) s (vRun w v))) (tP w)), τ) ∧ (∀ j, j < 39 → τ.1 81 j = σ.1 86 j) ∧ (∀ c, c ≠ 77 → c ≠ 81 → τ.1 c = σ.1 c) ∧ (∀ j, τ.1 77 j = σ.1 77 j) ∧ τ.2 = σ.2 := by
  have hP := hw.1
  have hK8 := hw.2.1
  have hRN2 : RN w (vRun w v) ((g_sI (g_sI σ 81 1 0) 81 2 (nI (2 ^ tK w - 1))).1 81) := by
    obtain ⟨g1, g2, g3, g4, g5⟩ := hRN
    refine ⟨?_, ?_, ?_, fun p hp => ⟨?_, ?_⟩, fun t ht => ⟨?_, ?_, ?_⟩⟩
    · simp (disch := omega) only [sI_o, sI_k, sI_n, sA_o, sA_s, sI_2, sA_2, sL_1, sL_o]; exact g1
    · simp (disch := omega) only [sI_o, sI_k, sI_n, sA_o, sA_s, sI_2, sA_2, sL_1, sL_o]; rfl
    · simp (disch := omega) only [sI_o, sI_k, sI_n, sA_o, sA_s, sI_2, sA_2, sL_1, sL_o]
    · simp (disch := omega) only [sI_o, sI_k, sI_n, sA_o, sA_s, sI_2, sA_2, sL_1, sL_o]; exact (g4 p hp).1
    · simp (disch := omega) only [sI_o, sI_k, sI_n, sA_o, sA_s, sI_2, sA_2, sL_1, sL_o]; exact (g4 p hp).2
    · simp (disch := omega) only [sI_o, sI_k, sI_n, sA_o, sA_s, sI_2, sA_2, sL_1, sL_o]; exact (g5 t ht).1
    · simp (disch := omega) only [sI_o, sI_k, sI_n, sA_o, sA_s, sI_2, sA_2, sL_1, sL_o]; exact (g5 t ht).2.1
    · simp (disch := omega) only [sI_o, sI_k, sI_n, sA_o, sA_s, sI_2, sA_2, sL_1, sL_o]; exact (g5 t ht).2.2
  obtain ⟨τ, t1, t2, t3, t4, t5, t6⟩ := r_runs_loop (N := N) (R := R) (e := nY v + n) (was := s) hw hK hR hN (by omega) 160 (vRun w v) s (g_sI (g_sI σ 81 1 0) 81 2 (nI (2 ^ tK w - 1))) N (vRun_ok hw hv hK) hs (by show (nY v + n - nY v) * 8 - 0 ≤ 160; omega) (by show nY v ≤ nY v + n; omega) (by simp (disch := omega) only [sI_o, sI_k, sI_n, sA_o, sA_s, sI_2, sA_2, sL_1, sL_o]; exact hT) hRN2 (by simp (disch := omega) only [sI_o, sI_k, sI_n, sA_o, sA_s, sI_2, sA_2, sL_1, sL_o]; exact h8) (by omega)
  refine ⟨τ, ?_, fun j hj => ?_, fun c c1 c2 => ?_, fun j => ?_, ?_⟩
  · unfold m_X11_runs m_X11_all g_lt
    rw [h8]
    dsimp only
    rw [Option.bind_some]
    dsimp only
    have f1 : (g_sI σ 81 1 0).1 79 = σ.1 79 := sI_o (by omega)
    have f2 : (g_sI σ 81 1 0).1 81 0 = σ.1 81 0 := sI_n (by omega)
    rw [f1, hT.2.1, u_all (tK w) (by omega), sI_n (show 0 ≠ 2 by omega), f2, hRN.1, nI_add]
    exact t1
  · rw [t2 j hj]; simp (disch := omega) only [sI_o, sI_k, sI_n, sA_o, sA_s, sI_2, sA_2, sL_1, sL_o]
  · rw [t3 c c1 c2]; simp (disch := omega) only [sI_o, sI_k, sI_n, sA_o, sA_s, sI_2, sA_2, sL_1, sL_o]
  · by_cases e : j = 8
    · subst e; rw [t4, h8]
    · rw [t5 j e]; simp (disch := omega) only [sI_o, sI_k, sI_n, sA_o, sA_s, sI_2, sA_2, sL_1, sL_o]
  · rw [t6]; rfl
theorem c_seed_pick {w : Tw} {σ : g_St} {S s N : Nat} {k : Int32 × g_St → Int32 × g_St → Option (Int32 × g_St)} (hw : TwOK w) (hT : CT w σ) (hS : S < 2 ^ tK w) (h0 : 0 < S) (hs : s < 2 ^ 31) (hN : 8 < N) : ((m_X10_nextSeed (nI s) σ).bind fun q3 => ((m_X7_weightOf N (nI S) q3.2).bind fun q4 => ((m_X10_lotOf q3.1 q4.1 q4.2).bind fun q5 => ((m_X7_ticketAt N (nI S) q5.1 q5.2).bind (k q3))))) = k (nI (nxs s), σ) (nI (lotT w S (nxs s)), σ) := by
  have h8 : S < 256 := Nat.lt_of_lt_of_le hS (pow8 hw.2.1)
  obtain ⟨x1, x2⟩ := c_lotT (σ := σ) (N := N) (s := nxs s) hw hT hS h0 (nxs_lt s) hN
  rw [c_next hs, Option.bind_some]
  dsimp only
  rw [c_wt hT.2.1 hw.2.1 hT.2.2.2.2.2 h8 hN, Option.bind_some]
  dsimp only
  rw [x1, Option.bind_some]
  dsimp only
  rw [x2, Option.bind_some]
set_option maxHeartbeats 1000000 in
theorem c_run_loop {w : Tw} {v0 : Nw} {R N n y0 : Nat} (hw : TwOK w) (hv0 : NwO w v0) (hK : 0 < tK w) (hR : R ≤ 1) (hN : 200 < N) (hn : n ≤ 20) (hy0 : y0 ≤ 90200) : ∀ f v s σ fo fi y, NwO w v → (∀ t, who v t = who v0 t) → s < 2 ^ 31 → (y0 + n - nY v) * 8 - nD v ≤ f → f ≤ 160 → nY v = y0 + y → y < n → CT w σ → CN w v0 σ → (∀ p, p < tP w → σ.1 76 p = nI (nA v p)) → n ≤ y + fo → f < fi → ∃ τ, m_X10_spreadAfter_44 (m_X10_spreadAfter_26 N fo) N fi (nI n) (nI R) (nI s) (nI y) (nI (nS v)) (nI (nD v)) σ = some (nI (sprd (nA (runV w R f (y0 + n) s v)) (tP w)), τ) ∧ (∀ c, c ≠ 76 → τ.1 c = σ.1 c) ∧ τ.2 = σ.2 := by
  have hP := hw.1
  have hK8 := hw.2.1
  intro f
  induction f with
  | zero =>
    intro v s σ fo fi y hv hwho hs hm hf160 hyy hyn hT hC h76 hfo hfi
    have := meas_pos hw hv hm
    omega
  | succ f ih =>
    intro v s σ fo fi y hv hwho hs hm hf160 hyy hyn hT hC h76 hfo hfi
    obtain ⟨fi, rfl⟩ : ∃ f, fi = f + 1 := ⟨fi - 1, by omega⟩
    have hl := lotT_ok (s := nxs s) hw hv.2.1 (hv.2.2.1 hK)
    have hS256 : nS v < 256 := Nat.lt_of_lt_of_le hv.2.1 (pow8 hK8)
    have hms := meas_step (R := R) (t := lotT w (nS v) (nxs s)) hw hv (by omega) hm
    rw [runV_s, if_neg (by omega)]
    unfold m_X10_spreadAfter_44
    rw [hT.2.2.1, if_neg (a_nle (a := tY w) (nD v) hv.1 (by have := hw.2.2.2.1; omega)), if_neg (nI_ne0 (hv.2.2.1 hK) (by omega)), c_seed_pick hw hT hv.2.1 (hv.2.2.1 hK) hs (by omega)]
    dsimp only
    generalize hlt : lotT w (nS v) (nxs s) = t at *
    have hpw := NwO_who hv0 hl.1
    have hag := (hv.2.2.2.1 (who v0 t) hpw).1
    rw [c_whoO hw hv0 hC hl.1, Option.bind_some]
    dsimp only
    rw [c_isP _ hT.1 (by omega), Option.bind_some]
    dsimp only
    rw [if_pos (a_in hpw (by omega)), if_neg n10, if_pos (a_in (show who v0 t < 6 by omega) (by omega)), nI_clamp (by omega), h76 _ hpw]
    unfold m_X10_older g_lt
    rw [older_nI hag, Option.bind_some]
    dsimp only
    rw [if_pos (a_in (show who v0 t < 6 by omega) (by omega))]
    -- the new state
    generalize hx : g_sI σ 76 (who v0 t) (nI (aged (nA v (who v0 t)))) = x
    have xo : ∀ c, c ≠ 76 → x.1 c = σ.1 c := fun c hc => by rw [← hx]; simp (disch := omega) only [sI_o, sI_k, sI_n, sA_o, sA_s, sI_2, sA_2, sL_1, sL_o]
    have x2 : x.2 = σ.2 := by rw [← hx]; rfl
    have hTx : CT w x := CT_k hT (fun c _ _ => xo c (by omega))
    have hCx : CN w v0 x := CN_k hC (fun c _ _ => xo c (by omega))
    have h76x : ∀ p, p < tP w → x.1 76 p = nI (nA (drawn w R v t) p) := fun p hp => by
      show _ = nI (va_up (nA v) (who v t) (aged (nA v (who v t))) p)
      rw [← hx, hwho]
      by_cases e : p = who v0 t
      · subst e; rw [sI_k, g_up_s]
      · rw [sI_n e, g_up_n _ _ e]; exact h76 p hp
    have hvd := drawn_ok (R := R) hw hv hl.1
    -- 127 to 151
    have e127 : m_X10_spreadAfter_127 (m_X10_spreadAfter_26 N fo) (m_X10_spreadAfter_44 (m_X10_spreadAfter_26 N fo) N fi) N (nI n) (nI R) (nI (nxs s)) (nI y) (nI (nS v)) (nI (nD v)) (nI t) x = m_X10_spreadAfter_44 (m_X10_spreadAfter_26 N fo) N fi (nI n) (nI R) (nI (nxs s)) (nI y) (nI (leftS R (nS v) t)) (nI (nD v + 1)) x := by
      unfold m_X10_spreadAfter_127 m_X10_spreadAfter_151 g_lt
      by_cases hR1 : R = 1
      · subst hR1
        rw [if_neg (show ¬ nI 1 = 0 by decide), nI_1]
        rfl
      · have hR0 : R = 0 := by omega
        subst hR0
        rw [if_pos (show nI 0 = 0 from rfl), c_isT _ hTx.2.1 (by omega), Option.bind_some]
        dsimp only
        rw [if_pos (a_in hl.1 (by omega)), if_neg n10, u_clr _ hS256 _ (by omega), nI_1]
        rfl
    rw [e127]
    rcases drawn_cases (R := R) (t := t) hv with ⟨a0, a1, a2, a3⟩ | ⟨a0, a1, a2, a4, a3, a5⟩
    · -- the year ends
      obtain ⟨fi2, rfl⟩ : ∃ f, fi = f + 1 := ⟨fi - 1, by omega⟩
      have e157 : m_X10_spreadAfter_44 (m_X10_spreadAfter_26 N fo) N (fi2 + 1) (nI n) (nI R) (nI (nxs s)) (nI y) (nI (leftS R (nS v) t)) (nI (nD v + 1)) x = m_X10_spreadAfter_26 N fo (nI n) (nI R) (nI (nxs s)) (nI (y + 1)) x := by
        have hd := hv.1
        have hYb := hw.2.2.2.1
        have hlf := leftS_le (R := R) hS256 (show t < 8 by omega)
        unfold m_X10_spreadAfter_44 m_X10_spreadAfter_157 g_lt
        rw [hTx.2.2.1, nI_1]
        by_cases q : nD v + 1 = tY w
        · rw [if_pos (a_le (nD v + 1) (by omega) (by omega))]
        · have q2 : leftS R (nS v) t = 0 := by
            have : (decide (nD v + 1 = tY w) || decide (leftS R (nS v) t = 0)) = true := a0
            simpa [q] using this
          rw [if_neg (a_nle (a := tY w) (nD v + 1) (by omega) (by omega)), q2, if_pos (show nI 0 = 0 from rfl)]
      rw [e157]
      obtain ⟨fo, rfl⟩ : ∃ f, fo = f + 1 := ⟨fo - 1, by omega⟩
      unfold m_X10_spreadAfter_26
      by_cases hlast : n ≤ y + 1
      · rw [if_pos (a_le (y + 1) hlast (by omega)), hTx.1, c_spr76 hP h76x (fun p hp => (hvd.2.2.2.1 p hp).1) (by omega), Option.bind_some, runV_end (by omega)]
        exact ⟨x, rfl, xo, x2⟩
      · rw [if_neg (a_nle (a := n) (y + 1) (by omega) (by omega))]
        unfold m_X7_everyTicket
        rw [Option.bind_some]
        dsimp only
        rw [hTx.2.1, u_all (tK w) (by omega)]
        obtain ⟨τ, t1, t2, t3⟩ := ih (drawn w R v t) (nxs s) x fo N (y + 1) hvd hwho (nxs_lt s) hms (by omega) (by omega) (by omega) hTx hCx h76x (by omega) (by omega)
        rw [a2, a3] at t1
        exact ⟨τ, t1, fun c hc => (t2 c hc).trans (xo c hc), t3.trans x2⟩
    · obtain ⟨τ, t1, t2, t3⟩ := ih (drawn w R v t) (nxs s) x fo fi y hvd hwho (nxs_lt s) hms (by omega) (by omega) (by omega) hTx hCx h76x (by omega) (by omega)
      rw [a2, a3] at t1
      exact ⟨τ, t1, fun c hc => (t2 c hc).trans (xo c hc), t3.trans x2⟩
theorem c_runs {d : Dt} {R N n : Nat} {σ : g_St} (ok : OK d) (hK : 0 < tK (dT d)) (hR : R ≤ 1) (hN : 200 < N) (hn : n ≤ 20) (hn1 : 1 ≤ n) (h : CC d σ) : ∃ τ, m_X10_spreadAfter N (nI n) (nI R) σ = some (nI (sprd (nA (runV (dT d) R 160 (nY (dN d) + n) (dSeed d) (vRun (dT d) (dN d)))) (tP (dT d))), τ) ∧ (∀ c, c ≠ 76 → τ.1 c = σ.1 c) ∧ τ.2 = σ.2 := by
  have hP := ok.1.1
  have hK8 := ok.1.2.1
  obtain ⟨N', rfl⟩ : ∃ f, N = f + 1 := ⟨N - 1, by omega⟩
  have hy := ok.2.1.1
  obtain ⟨τ, t1, t2, t3⟩ := c_run_loop (v0 := dN d) (R := R) (N := N' + 1) (n := n) (y0 := nY (dN d)) ok.1 ok.2.1.o hK hR hN hn hy 160 (vRun (dT d) (dN d)) (dSeed d) (g_sA σ 76 (va_cpy (σ.1 17) (σ.1 76) 0 0 6)) N' (N' + 1) 0 (vRun_ok ok.1 ok.2.1.o hK) (fun _ => rfl) ok.2.2.1.1 (by show (nY (dN d) + n - nY (dN d)) * 8 - 0 ≤ 160; omega) (by omega) rfl (by omega) (CT_k h.1.1 (fun c _ _ => by simp (disch := omega) only [sI_o, sI_k, sI_n, sA_o, sA_s, sI_2, sA_2, sL_1, sL_o])) (CN_k h.1.2.1 (fun c _ _ => by simp (disch := omega) only [sI_o, sI_k, sI_n, sA_o, sA_s, sI_2, sA_2, sL_1, sL_o])) (fun p hp => by simp (disch := omega) only [sI_o, sI_k, sI_n, sA_o, sA_s, sI_2, sA_2, sL_1, sL_o]; rw [pk_cpy_in (by omega) (by omega), show 0 + (p - 0) = p by omega]; exact (h.1.2.1.2.2.2.1 p hp).1) (by omega) (by omega)
  refine ⟨τ, ?_, fun c hc => by rw [t2 c hc]; simp (disch := omega) only [sI_o, sI_k, sI_n, sA_o, sA_s, sI_2, sA_2, sL_1, sL_o], t3⟩
  unfold m_X10_spreadAfter g_lt
  dsimp only
  rw [sA_o (by omega), h.1.2.2]
  unfold m_X10_spreadAfter_26
  rw [if_neg (show ¬ nI n ≤ (0 : Int32) from a_nle (a := n) 0 (by omega) (by omega))]
  unfold m_X7_everyTicket
  rw [Option.bind_some]
  dsimp only
  rw [sA_o (by omega), h.1.1.2.1, u_all (tK (dT d)) (by omega)]
  exact t1
theorem CC_76 {d : Dt} {σ τ : g_St} (h : CC d σ) (k : ∀ c, c ≠ 76 → τ.1 c = σ.1 c) : CC d τ := by
  obtain ⟨⟨a1, a2, a3⟩, h2, h3, h4⟩ := h
  refine ⟨⟨CT_k a1 (fun c _ _ => k c (by omega)), CN_k a2 (fun c _ _ => k c (by omega)), ?_⟩, CCu_k h2 rfl rfl (fun c _ _ => k c (by omega)), CCk_k h3 rfl rfl (fun c _ _ => k c (by omega)), ?_⟩
  · rw [k 0 (by omega)]; exact a3
  · unfold CCs at *
    rw [k 67 (by omega), k 68 (by omega), k 69 (by omega), k 70 (by omega), k 74 (by omega), k 75 (by omega), k 0 (by omega), k 1 (by omega)]
    exact h4
theorem RR_back2 {d : Dt} {σ τ : g_St} (ok : OK d) (h : RR d σ) (h81 : ∀ j, j < 39 → τ.1 81 j = σ.1 81 j) (hk : ∀ c, 77 ≤ c → c ≠ 81 → c ≠ 86 → τ.1 c = σ.1 c) : RR d τ := by
  obtain ⟨⟨a1, a2, a3⟩, h2, h3, h4⟩ := h
  refine ⟨⟨?_, RN_ext ok.1 a2 h81, ?_⟩, ?_, ?_, ?_⟩
  · rw [hk 79 (by omega) (by omega) (by omega)]; exact a1
  · rw [hk 77 (by omega) (by omega) (by omega)]; exact a3
  · exact RRu_k h2 rfl rfl (by rw [hk 77 (by omega) (by omega) (by omega)]) (hk 82 (by omega) (by omega) (by omega))
  · exact RRk_k h3 rfl rfl (hk 92 (by omega) (by omega) (by omega))
  · unfold RRs at *
    rw [hk 77 (by omega) (by omega) (by omega), hk 89 (by omega) (by omega) (by omega), hk 90 (by omega) (by omega) (by omega), hk 91 (by omega) (by omega) (by omega), hk 80 (by omega) (by omega) (by omega)]
    exact h4
noncomputable def evA (d : Dt) (R n : Nat) : Nat := sprd (nA (runV (dT d) R 160 (nY (dN d) + n) (dSeed d) (vRun (dT d) (dN d)))) (tP (dT d))
noncomputable def evR (a b k : Nat) : Int32 := if k = 1 then nI (if b ≤ a then b else a) else if b ≤ a then (if a ≤ b then 2 else 0) else 1
theorem NwO_run {w : Tw} {R : Nat} (hw : TwOK w) (hK : 0 < tK w) : ∀ f e s v, NwO w v → NwO w (runV w R f e s v)
  | 0, _, _, v, h => h
  | f + 1, e, s, v, h => by
    rw [runV_s]
    split
    · exact h
    · exact NwO_run hw hK f e (nxs s) _ (drawn_ok hw h (lotT_ok (s := nxs s) hw h.2.1 (h.2.2.1 hK)).1)
theorem sprd_le {w : Tw} {v : Nw} (h : NwO w v) : sprd (nA v) (tP w) ≤ 999 := by
  unfold sprd
  have := mxA_le (a := nA v) (tP w) (fun p hp => (h.2.2.2.1 p hp).1)
  split <;> omega
set_option maxHeartbeats 1000000 in
theorem sp_evens (N : Nat) (hN : 200 < N) (x y : Int32) : Sp (m_X10_evens N x y) (m_X11_evens N x y) := by
  intro d ok
  have hP6 : tP (dT d) ≤ 6 := ok.1.1
  have hK8 : tK (dT d) ≤ 8 := ok.1.2.1
  have e0 : (0 : Int64) = (nI 0).toInt64 := by decide
  have e1 : (1 : Int64) = (nI 1).toInt64 := by decide
  have e20 : (20 : Int64) = (nI 20).toInt64 := by decide
  have bad : (¬ (nI 1 ≤ x ∧ x ≤ nI 20) ∨ ¬ (nI 0 ≤ y ∧ y ≤ nI 1)) → ∃ (r : Int32) (d' : Dt), OK d' ∧ (∀ σ, CC d σ → ∃ τ, m_X10_evens N x y σ = some (r, τ) ∧ CC d' τ ∧ keepR σ τ) ∧ (∀ σ, RR d σ → ∃ τ, m_X11_evens N x y σ = some (r, τ) ∧ RR d' τ ∧ keepC σ τ) := by
    intro hb
    refine ⟨-1000000002, d, ok, fun σ h => ⟨σ, ?_, h, keepR_rf σ⟩, fun σ h => ⟨σ, ?_, h, keepC_rf σ⟩⟩
    · unfold m_X10_evens
      by_cases q1 : x < (1 : Int32)
      · rw [if_pos q1]
      · by_cases q2 : (20 : Int32) < x
        · rw [if_neg q1, if_pos q2]
        · by_cases q3 : y < 0
          · rw [if_neg q1, if_neg q2, if_pos q3]
          · rw [if_neg q1, if_neg q2, if_neg q3, if_neg]
            intro q4
            rcases hb with z | z
            · exact z ⟨lt_nle q1, lt_nle q2⟩
            · exact z ⟨lt_nle q3, q4⟩
    · unfold m_X11_evens
      rw [e0, e1, e20, r_inR, Option.bind_some]
      dsimp only
      by_cases q1 : nI 1 ≤ x ∧ x ≤ nI 20
      · rw [if_pos q1, if_neg n10, r_inR, Option.bind_some]
        dsimp only
        rw [if_neg (fun z => hb.elim (fun w => w q1) (fun w => w z)), if_pos rfl]
      · rw [if_neg q1, if_pos rfl]
  rcases rng_cases x 1 20 (by omega) (by omega) with ⟨n, h1, h2, rfl⟩ | hx
  · rcases rng_cases y 0 1 (by omega) (by omega) with ⟨k, h3, h4, rfl⟩ | hy
    · have hr : nI 1 ≤ nI n ∧ nI n ≤ nI 20 := ⟨a_le n h1 (by omega), a_le 20 h2 (by omega)⟩
      have hr2 : nI 0 ≤ nI k ∧ nI k ≤ nI 1 := ⟨a_le k h3 (by omega), a_le 1 h4 (by omega)⟩
      have cpre : ∀ σ, CC d σ → m_X10_evens N (nI n) (nI k) σ = (if nI (tP (dT d)) = 0 then some ((-1000000003 : Int32), σ) else (if nI (tK (dT d)) = 0 then some ((-1000000003 : Int32), σ)
   else ((m_X10_spreadAfter N (nI n) (1 : Int32) σ).bind fun q7 => ((m_X10_spreadAfter N (nI n) (0 : Int32) q7.2).bind fun q8 => (if nI k = (1 : Int32) then some ((if q8.1 < q7.1 then q8.1 else q7.1), q8.2)
   else (if q7.1 = q8.1 then some ((2 : Int32), q8.2)
   else (if q8.1 ≤ q7.1 then some ((0 : Int32), q8.2)
   else some ((1 : Int32), q8.2)))))))) := fun σ h => by
        unfold m_X10_evens
        rw [if_neg (show ¬ nI n < (1 : Int32) from a_nlt 1 h1 (by omega)), if_neg (show ¬ (20 : Int32) < nI n from a_nlt (a := 20) n h2 (by omega)), if_neg (nI_pos (by omega)), if_pos (show nI k ≤ (1 : Int32) from hr2.2), h.1.1.1, h.1.1.2.1]
      have rpre : ∀ σ, RR d σ → m_X11_evens N (nI n) (nI k) σ = (if nI (tP (dT d)) = 0 then some ((-1000000003 : Int32), σ)
   else (if nI (tK (dT d)) = 0 then some ((-1000000003 : Int32), σ)
   else ((m_X11_asides N σ).bind fun σ7 => ((m_X11_runs N (nI n) (1 : Int32) σ7).bind fun q8 => ((m_X11_runs N (nI n) (0 : Int32) q8.2).bind fun q9 => (if nI k = (1 : Int32) then (if q9.1 ≤ q8.1 then some (q9.1, q9.2)
   else some (q8.1, q9.2))
   else (if q9.1 ≤ q8.1 then (if q8.1 ≤ q9.1 then some ((2 : Int32), q9.2)
   else some ((0 : Int32), q9.2))
   else some ((1 : Int32), q9.2)))))))) := fun σ h => by
        unfold m_X11_evens
        rw [e0, e1, e20, r_inR, Option.bind_some]
        dsimp only
        rw [if_pos hr, if_neg n10, r_inR, Option.bind_some]
        dsimp only
        rw [if_pos hr2, if_neg n10, h.1.1.1, h.1.1.2.1]
      by_cases hP0 : tP (dT d) = 0
      · refine ⟨-1000000003, d, ok, fun σ h => ⟨σ, ?_, h, keepR_rf σ⟩, fun σ h => ⟨σ, ?_, h, keepC_rf σ⟩⟩
        · rw [cpre σ h, hP0, if_pos (show nI 0 = 0 from rfl)]
        · rw [rpre σ h, hP0, if_pos (show nI 0 = 0 from rfl)]
      · by_cases hK0 : tK (dT d) = 0
        · refine ⟨-1000000003, d, ok, fun σ h => ⟨σ, ?_, h, keepR_rf σ⟩, fun σ h => ⟨σ, ?_, h, keepC_rf σ⟩⟩
          · rw [cpre σ h, if_neg (nI_ne0 (by omega) (by omega)), hK0, if_pos (show nI 0 = 0 from rfl)]
          · rw [rpre σ h, if_neg (nI_ne0 (by omega) (by omega)), hK0, if_pos (show nI 0 = 0 from rfl)]
        · have la : evA d 1 n ≤ 999 := sprd_le (NwO_run ok.1 (by omega) _ _ _ _ (vRun_ok ok.1 ok.2.1.o (by omega)))
          have lb : evA d 0 n ≤ 999 := sprd_le (NwO_run ok.1 (by omega) _ _ _ _ (vRun_ok ok.1 ok.2.1.o (by omega)))
          refine ⟨evR (evA d 1 n) (evA d 0 n) k, d, ok, fun σ h => ?_, fun σ h => ?_⟩
          · obtain ⟨x, x1, x2, x3⟩ := c_runs (R := 1) ok (by omega) (by omega) hN h2 h1 h
            have hcx := CC_76 h x2
            obtain ⟨τ, t1, t2, t3⟩ := c_runs (R := 0) ok (by omega) (by omega) hN h2 h1 hcx
            refine ⟨τ, ?_, CC_76 hcx t2, fun c hc => ⟨by rw [t2 c (by omega), x2 c (by omega)], by rw [t3, x3]⟩⟩
            have x1' : m_X10_spreadAfter N (nI n) (1 : Int32) σ = some (nI (evA d 1 n), x) := x1
            have t1' : m_X10_spreadAfter N (nI n) (0 : Int32) x = some (nI (evA d 0 n), τ) := t1
            rw [cpre σ h, if_neg (nI_ne0 (by omega) (by omega)), if_neg (nI_ne0 (by omega) (by omega)), x1', Option.bind_some]
            dsimp only
            rw [t1', Option.bind_some]
            dsimp only
            generalize evA d 1 n = a at *
            generalize evA d 0 n = b at *
            unfold evR
            by_cases hk : k = 1
            · rw [if_pos hk, if_pos (show nI k = (1 : Int32) by rw [hk]; rfl)]
              by_cases q : b < a
              · rw [if_pos (a_lt a q (by omega)), if_pos (by omega)]
              · rw [if_neg (a_nlt a (by omega) (by omega))]
                by_cases q2 : b ≤ a
                · rw [if_pos q2, show a = b by omega]
                · rw [if_neg q2]
            · rw [if_neg hk, if_neg (show ¬ nI k = (1 : Int32) from a_ne 1 hk (by omega) (by omega))]
              by_cases q : a = b
              · rw [if_pos (by rw [q]), if_pos (by omega), if_pos (by omega)]
              · rw [if_neg (a_ne b q (by omega) (by omega))]
                by_cases q2 : b ≤ a
                · rw [if_pos (a_le a q2 (by omega)), if_pos q2, if_neg (by omega)]
                · rw [if_neg (a_nle a (by omega) (by omega)), if_neg q2]
          · have hT0 := h.1.1
            obtain ⟨x, x1, x2, x3, x4, x5⟩ := r_runs (σ := cpS σ 86 81 0 0 0 39) (N := N) (R := 1) ok.1 ok.2.1.o (by omega) (by omega) hN h2 ok.2.1.1 ok.2.2.1.1 (by rw [cpS_o (by omega)]; exact h.1.1) (by rw [cpS_o (by omega)]; exact h.1.2.1) (by rw [cpS_o (by omega)]; exact h.1.2.2)
            have x81 : ∀ j, j < 39 → x.1 81 j = σ.1 81 j := fun j hj => by rw [x2 j hj]; exact aside_at hj
            have x77 : x.1 77 = σ.1 77 := funext fun j => by rw [x4 j, cpS_o (by omega)]
            have xo : ∀ c, c ≠ 77 → c ≠ 81 → c ≠ 86 → x.1 c = σ.1 c := fun c c1 c2 c3 => by rw [x3 c c1 c2, cpS_o c3]
            have hrx : RR d x := RR_back2 ok h x81 (fun c c1 c2 c3 => by
              by_cases e : c = 77
              · subst e; exact x77
              · exact xo c e c2 c3)
            obtain ⟨τ, t1, t2, t3, t4, t5⟩ := r_runs (σ := x) (N := N) (R := 0) ok.1 ok.2.1.o (by omega) (by omega) hN h2 ok.2.1.1 ok.2.2.1.1 hrx.1.1 hrx.1.2.1 hrx.1.2.2
            have hrt : RR d τ := RR_back2 ok hrx (fun j hj => by rw [t2 j hj, x81 j hj, x3 86 (by omega) (by omega)]; exact aside_at hj) (fun c c1 c2 c3 => by
              by_cases e : c = 77
              · subst e; exact funext fun j => t4 j
              · exact t3 c e c2)
            refine ⟨τ, ?_, hrt, fun c hc => ⟨by rw [t3 c (by omega) (by omega), xo c (by omega) (by omega) (by omega)], by rw [t5, x5]; rfl⟩⟩
            have x1' : m_X11_runs N (nI n) (1 : Int32) (cpS σ 86 81 0 0 0 39) = some (nI (evA d 1 n), x) := x1
            have t1' : m_X11_runs N (nI n) (0 : Int32) x = some (nI (evA d 0 n), τ) := t1
            rw [rpre σ h, if_neg (nI_ne0 (by omega) (by omega)), if_neg (nI_ne0 (by omega) (by omega)), r_asides (by omega), Option.bind_some, x1', Option.bind_some]
            dsimp only
            rw [t1', Option.bind_some]
            dsimp only
            generalize evA d 1 n = a at *
            generalize evA d 0 n = b at *
            unfold evR
            by_cases hk : k = 1
            · rw [if_pos hk, if_pos (show nI k = (1 : Int32) by rw [hk]; rfl)]
              by_cases q : b ≤ a
              · rw [if_pos (a_le a q (by omega)), if_pos q]
              · rw [if_neg (a_nle a (by omega) (by omega)), if_neg q]
            · rw [if_neg hk, if_neg (show ¬ nI k = (1 : Int32) from a_ne 1 hk (by omega) (by omega))]
              by_cases q2 : b ≤ a
              · rw [if_pos (a_le a q2 (by omega)), if_pos q2]
                by_cases q3 : a ≤ b
                · rw [if_pos (a_le b q3 (by omega)), if_pos q3]
                · rw [if_neg (a_nle b (by omega) (by omega)), if_neg q3]
              · rw [if_neg (a_nle a (by omega) (by omega)), if_neg q2]
    · exact bad (Or.inr hy)
  · exact bad (Or.inl hx)
