/-! a town begins -/
theorem r_s2 {N : Nat} : ∀ m k fu σ, k + m = 45 → m < fu → (∀ j, j < k → σ.1 79 j = σ.1 78 j) → ∃ τ, m_X11_starts_2 N fu (nI k) σ = m_X11_starts_28 N N 0 τ ∧ (∀ j, j < 45 → τ.1 79 j = σ.1 78 j) ∧ (∀ c, c ≠ 79 → τ.1 c = σ.1 c) ∧ τ.2 = σ.2 := by
  intro m
  induction m with
  | zero =>
    intro k fu σ hk hf h
    obtain ⟨fu, rfl⟩ : ∃ f, fu = f + 1 := ⟨fu - 1, by omega⟩
    refine ⟨σ, ?_, fun j hj => h j (by omega), fun c _ => rfl, rfl⟩
    unfold m_X11_starts_2
    rw [if_pos (show (45 : Int32) ≤ nI k from a_le (a := 45) k (by omega) (by omega))]
  | succ m ih =>
    intro k fu σ hk hf h
    obtain ⟨fu, rfl⟩ : ∃ f, fu = f + 1 := ⟨fu - 1, by omega⟩
    have i1 : g_in (nI k) 45 := a_in (by omega) (by omega)
    obtain ⟨τ, t1, t2, t3, t4⟩ := ih (k + 1) fu (g_sI σ 79 k (σ.1 78 k)) (by omega) (by omega) (fun j hj => by
      rw [sI_o (show 78 ≠ 79 by omega)]
      by_cases e : j = k
      · rw [e, sI_k]
      · rw [sI_n e]; exact h j (by omega))
    refine ⟨τ, ?_, fun j hj => by rw [t2 j hj]; simp (disch := omega) only [sI_o, sI_k, sI_n, sA_o, sA_s, sI_2, sA_2, sL_1, sL_o], fun c hc => by rw [t3 c hc]; simp (disch := omega) only [sI_o, sI_k, sI_n, sA_o, sA_s, sI_2, sA_2, sL_1, sL_o], by rw [t4]; rfl⟩
    rw [← t1]
    conv => lhs; unfold m_X11_starts_2 g_lt
    dsimp only
    rw [if_neg (show ¬ (45 : Int32) ≤ nI k from a_nle (a := 45) k (by omega) (by omega)), if_pos i1, if_pos i1, nI_clamp (by omega), nI_1]
theorem r_s28 {N K : Nat} (hK : K ≤ 8) : ∀ m k fu σ, k + m = 39 → m < fu → σ.1 79 1 = nI K → (∀ j, j < k → σ.1 81 j = 0) → ∃ τ, m_X11_starts_28 N fu (nI k) σ = m_X11_starts_59 N N 0 τ ∧ τ.1 81 2 = nI (2 ^ K - 1) ∧ (∀ j, j < 39 → j ≠ 2 → τ.1 81 j = 0) ∧ (∀ c, c ≠ 81 → τ.1 c = σ.1 c) ∧ τ.2 = σ.2 := by
  intro m
  induction m with
  | zero =>
    intro k fu σ hk hf h1 h
    obtain ⟨fu, rfl⟩ : ∃ f, fu = f + 1 := ⟨fu - 1, by omega⟩
    refine ⟨g_sI σ 81 2 (nI (2 ^ K - 1)), ?_, by simp (disch := omega) only [sI_o, sI_k, sI_n, sA_o, sA_s, sI_2, sA_2, sL_1, sL_o], fun j hj hj2 => by rw [sI_n hj2]; exact h j (by omega), fun c hc => by simp (disch := omega) only [sI_o, sI_k, sI_n, sA_o, sA_s, sI_2, sA_2, sL_1, sL_o], rfl⟩
    unfold m_X11_starts_28 m_X11_all g_lt
    rw [if_pos (show (39 : Int32) ≤ nI k from a_le (a := 39) k (by omega) (by omega)), Option.bind_some]
    dsimp only
    rw [h1, u_all K (by omega)]
  | succ m ih =>
    intro k fu σ hk hf h1 h
    obtain ⟨fu, rfl⟩ : ∃ f, fu = f + 1 := ⟨fu - 1, by omega⟩
    obtain ⟨τ, t1, t2, t3, t4, t5⟩ := ih (k + 1) fu (g_sI σ 81 k 0) (by omega) (by omega) (by simp (disch := omega) only [sI_o, sI_k, sI_n, sA_o, sA_s, sI_2, sA_2, sL_1, sL_o]; exact h1) (fun j hj => by
      by_cases e : j = k
      · rw [e, sI_k]
      · rw [sI_n e]; exact h j (by omega))
    refine ⟨τ, ?_, t2, t3, fun c hc => by rw [t4 c hc]; simp (disch := omega) only [sI_o, sI_k, sI_n, sA_o, sA_s, sI_2, sA_2, sL_1, sL_o], by rw [t5]; rfl⟩
    rw [← t1]
    conv => lhs; unfold m_X11_starts_28 g_lt
    rw [if_neg (show ¬ (39 : Int32) ≤ nI k from a_nle (a := 39) k (by omega) (by omega)), if_pos (a_in (by omega) (by omega)), nI_clamp (by omega), nI_1]
theorem r_s59 {N P : Nat} (hP : P ≤ 6) : ∀ m k fu σ, k + m = 2 * P → m < fu → σ.1 79 0 = nI P → (∀ j, j < k → σ.1 81 (3 + j) = σ.1 79 (9 + j)) → ∃ τ, m_X11_starts_59 N fu (nI k) σ = m_X11_starts_96 N N 0 τ ∧ (∀ j, j < 2 * P → τ.1 81 (3 + j) = σ.1 79 (9 + j)) ∧ (∀ j, (j < 3 ∨ 3 + 2 * P ≤ j) → τ.1 81 j = σ.1 81 j) ∧ (∀ c, c ≠ 81 → τ.1 c = σ.1 c) ∧ τ.2 = σ.2 := by
  intro m
  induction m with
  | zero =>
    intro k fu σ hk hf h1 h
    obtain ⟨fu, rfl⟩ : ∃ f, fu = f + 1 := ⟨fu - 1, by omega⟩
    refine ⟨σ, ?_, fun j hj => h j (by omega), fun j _ => rfl, fun c _ => rfl, rfl⟩
    unfold m_X11_starts_59
    rw [h1, show (2 : Int32) * nI P = nI (2 * P) from pk_mul 2 P, if_pos (a_le k (by omega) (by omega))]
  | succ m ih =>
    intro k fu σ hk hf h1 h
    obtain ⟨fu, rfl⟩ : ∃ f, fu = f + 1 := ⟨fu - 1, by omega⟩
    obtain ⟨τ, t1, t2, t3, t4, t5⟩ := ih (k + 1) fu (g_sI σ 81 (3 + k) (σ.1 79 (9 + k))) (by omega) (by omega) (by simp (disch := omega) only [sI_o, sI_k, sI_n, sA_o, sA_s, sI_2, sA_2, sL_1, sL_o]; exact h1) (fun j hj => by
      rw [sI_o (show 79 ≠ 81 by omega)]
      by_cases e : j = k
      · rw [e, sI_k]
      · rw [sI_n (by omega)]; exact h j (by omega))
    refine ⟨τ, ?_, fun j hj => by rw [t2 j hj]; simp (disch := omega) only [sI_o, sI_k, sI_n, sA_o, sA_s, sI_2, sA_2, sL_1, sL_o], fun j hj => by rw [t3 j hj, sI_n (by omega)], fun c hc => by rw [t4 c hc]; simp (disch := omega) only [sI_o, sI_k, sI_n, sA_o, sA_s, sI_2, sA_2, sL_1, sL_o], by rw [t5]; rfl⟩
    rw [← t1]
    conv => lhs; unfold m_X11_starts_59 g_lt
    dsimp only
    rw [h1, show (2 : Int32) * nI P = nI (2 * P) from pk_mul 2 P, if_neg (a_nle (a := 2 * P) k (by omega) (by omega)), show (9 : Int32) + nI k = nI (9 + k) from nI_add 9 k, show (3 : Int32) + nI k = nI (3 + k) from nI_add 3 k, if_pos (a_in (by omega) (by omega)), if_pos (a_in (by omega) (by omega)), nI_clamp (by omega), nI_clamp (by omega), nI_1]
theorem e21 (t : Nat) : (21 : Int32) + ((3 : Int32) * nI t) = nI (21 + 3 * t) := by
  rw [show (3 : Int32) * nI t = nI (3 * t) from pk_mul 3 t]; exact nI_add 21 _
theorem e21b (t : Nat) : ((21 : Int32) + ((3 : Int32) * nI t)) + (2 : Int32) = nI (21 + 3 * t + 2) := by rw [e21]; exact nI_add _ 2
def sEnd (σ : g_St) : g_St := g_sI (g_sI (g_sI (g_sI (g_sI (g_sI σ 77 17 0) 77 21 0) 77 19 0) 77 9 0) 92 0 0) 92 41 0
theorem r_s96 {N K : Nat} (hK : K ≤ 8) : ∀ m k fu σ, k + m = K → m < fu → σ.1 79 1 = nI K → (∀ t, t < k → σ.1 81 (15 + 3 * t) = σ.1 79 (21 + 3 * t) ∧ σ.1 81 (15 + 3 * t + 1) = -1 ∧ σ.1 81 (15 + 3 * t + 2) = σ.1 79 (21 + 3 * t + 2)) → ∃ τ, m_X11_starts_96 N fu (nI k) σ = some (sEnd τ) ∧ (∀ t, t < K → τ.1 81 (15 + 3 * t) = σ.1 79 (21 + 3 * t) ∧ τ.1 81 (15 + 3 * t + 1) = -1 ∧ τ.1 81 (15 + 3 * t + 2) = σ.1 79 (21 + 3 * t + 2)) ∧ (∀ j, j < 15 → τ.1 81 j = σ.1 81 j) ∧ (∀ c, c ≠ 81 → τ.1 c = σ.1 c) ∧ τ.2 = σ.2 := by
  intro m
  induction m with
  | zero =>
    intro k fu σ hk hf h1 h
    obtain ⟨fu, rfl⟩ : ∃ f, fu = f + 1 := ⟨fu - 1, by omega⟩
    refine ⟨σ, ?_, fun j hj => h j (by omega), fun j _ => rfl, fun c _ => rfl, rfl⟩
    unfold m_X11_starts_96
    rw [h1, if_pos (a_le k (by omega) (by omega))]
    rfl
  | succ m ih =>
    intro k fu σ hk hf h1 h
    obtain ⟨fu, rfl⟩ : ∃ f, fu = f + 1 := ⟨fu - 1, by omega⟩
    obtain ⟨τ, t1, t2, t3, t4, t5⟩ := ih (k + 1) fu (g_sI (g_sI (g_sI σ 81 (15 + 3 * k) (σ.1 79 (21 + 3 * k))) 81 (15 + 3 * k + 1) (-1)) 81 (15 + 3 * k + 2) (σ.1 79 (21 + 3 * k + 2))) (by omega) (by omega) (by simp (disch := omega) only [sI_o, sI_k, sI_n, sA_o, sA_s, sI_2, sA_2, sL_1, sL_o]; exact h1) (fun t ht => by
      rw [sI_o (show 79 ≠ 81 by omega), sI_o (show 79 ≠ 81 by omega), sI_o (show 79 ≠ 81 by omega)]
      by_cases e : t = k
      · rw [e]
        refine ⟨?_, ?_, ?_⟩
        · rw [sI_n (by omega), sI_n (by omega), sI_k]
        · rw [sI_n (by omega), sI_k]
        · rw [sI_k]
      · rw [sI_n (by omega), sI_n (by omega), sI_n (by omega), sI_n (by omega), sI_n (by omega), sI_n (by omega), sI_n (by omega), sI_n (by omega), sI_n (by omega)]
        exact h t (by omega))
    refine ⟨τ, ?_, fun t ht => ?_, fun j hj => by rw [t3 j hj, sI_n (by omega), sI_n (by omega), sI_n (by omega)], fun c hc => by rw [t4 c hc]; simp (disch := omega) only [sI_o, sI_k, sI_n, sA_o, sA_s, sI_2, sA_2, sL_1, sL_o], by rw [t5]; rfl⟩
    · rw [← t1]
      conv => lhs; unfold m_X11_starts_96 g_lt
      dsimp only
      rw [h1, if_neg (a_nle (a := K) k (by omega) (by omega)), e21b, e21, e15a, e15b, e15, if_pos (a_in (by omega) (by omega)), if_pos (a_in (by omega) (by omega)), if_pos (a_in (by omega) (by omega)), if_pos (a_in (by omega) (by omega)), if_pos (a_in (by omega) (by omega)), nI_clamp (by omega), nI_clamp (by omega), nI_clamp (by omega), nI_clamp (by omega), nI_clamp (by omega), nI_1]
      rw [sI_o (show 79 ≠ 81 by omega), sI_o (show 79 ≠ 81 by omega)]
    · have := t2 t ht
      rw [sI_o (show 79 ≠ 81 by omega), sI_o (show 79 ≠ 81 by omega), sI_o (show 79 ≠ 81 by omega)] at this
      exact this
/-- the moment in which a town begins -/
def sN (S : Sx) : Nw := ((0, 0, 2 ^ tK (sW S) - 1), sA S, sC S, sH S, fun _ => none, sPr S)
def dSx (d : Dt) (S : Sx) : Dt := ((sW S, sN S), (dSeed d, [], fun _ => none), ([], 0, fun _ => 0), [], ([], -1))
def dFx (d : Dt) (fa : Int32) : Dt := ((dT d, dN d), (dSeed d, dU d, dK d), (dSeen d, dLit d, dTold d), dBook d, ([], fa))
theorem dSx_ok {d : Dt} {S : Sx} (hs : dSeed d < 2 ^ 31) (h : SOK S) : OK (dSx d S) := by
  obtain ⟨hw, y1, y2, p1, t1⟩ := h
  have hw' := hw
  obtain ⟨w1, w2, w3, w4, w5, w6, w7, w8⟩ := hw'
  have h2 := two_pos (tK (sW S))
  refine ⟨hw, ⟨?_, ?_, ?_, fun h => ?_, fun p hp => ?_, fun t ht => ?_⟩, ⟨hs, fun _ => ⟨rfl, (fun v hv => by cases hv), (fun i s v h => by cases h)⟩⟩, ⟨by show 0 ≤ 30; omega, (fun v hv => by cases hv)⟩, fun i s v h => (by cases h), ⟨by show 0 ≤ 8; omega, (fun v hv => by cases hv)⟩, ⟨Nat.pow_pos (by omega), fun p _ => by show 0 ≤ 999; omega⟩, ⟨by show 0 ≤ 20; omega, (fun v hv => by cases hv)⟩, ⟨by show 0 ≤ 250; omega, (fun v hv => by cases hv)⟩⟩
  · show 0 ≤ 90200; omega
  · show 0 < tY (sW S); omega
  · show 2 ^ tK (sW S) - 1 < 2 ^ tK (sW S); omega
  · show 0 < 2 ^ tK (sW S) - 1
    have : 2 ^ 1 ≤ 2 ^ tK (sW S) := Nat.pow_le_pow_right (by omega) h
    omega
  · have := p1 p hp
    show sA S p ≤ 999 ∧ sC S p ≤ 9999
    omega
  · have := t1 t ht
    exact ⟨this.1, (fun q hq => by cases hq), this.2⟩
theorem dFx_ok {d : Dt} {fa : Int32} (ok : OK d) : OK (dFx d fa) := by
  obtain ⟨o1, o2, o3, o4, o5, o6, o7, o8, o9⟩ := ok
  exact ⟨o1, o2, o3, o4, o5, o6, o7, o8, ⟨by show 0 ≤ 250; omega, (fun v hv => by cases hv)⟩⟩
theorem r_starts {d : Dt} {S : Sx} {N : Nat} {σ : g_St} (hN : 300 < N) (hS : SOK S) (hR : RS S σ) (h8 : σ.1 77 8 = nI (dSeed d)) (h3 : σ.1 77 3 = 0) (h6 : σ.1 77 6 = -1) : ∃ τ, m_X11_starts N σ = some τ ∧ RR (dSx d S) τ ∧ τ.1 79 0 = nI (tP (sW S)) ∧ keepC σ τ := by
  obtain ⟨hw, y1, y2, p1, t1⟩ := hS
  have hP : tP (sW S) ≤ 6 := hw.1
  have hK : tK (sW S) ≤ 8 := hw.2.1
  obtain ⟨⟨a1, a2, a3, a4⟩, a5, a6, a7, a8⟩ := hR
  obtain ⟨x, x1, x2, x3, x4⟩ := r_s2 (N := N) 45 0 N σ (by omega) (by omega) (fun j hj => by omega)
  obtain ⟨y, y1, y2, y3, y4, y5⟩ := r_s28 (N := N) hK 39 0 N x (by omega) (by omega) (by rw [x2 1 (by omega)]; exact a2) (fun j hj => by omega)
  obtain ⟨z, z1, z2, z3, z4, z5⟩ := r_s59 (N := N) hP (2 * tP (sW S)) 0 N y (by omega) (by omega) (by rw [y4 79 (by omega), x2 0 (by omega)]; exact a1) (fun j hj => by omega)
  obtain ⟨u, u1, u2, u3, u4, u5⟩ := r_s96 (N := N) hK (tK (sW S)) 0 N z (by omega) (by omega) (by rw [z4 79 (by omega), y4 79 (by omega), x2 1 (by omega)]; exact a2) (fun t ht => by omega)
  have h79 : ∀ j, j < 45 → u.1 79 j = σ.1 78 j := fun j hj => by rw [u4 79 (by omega), z4 79 (by omega), y4 79 (by omega), x2 j hj]
  have hk : ∀ c, c ≠ 79 → c ≠ 81 → u.1 c = σ.1 c := fun c c1 c2 => by rw [u4 c c2, z4 c c2, y4 c c2, x3 c c1]
  have s79 : (sEnd u).1 79 = u.1 79 := by unfold sEnd; simp (disch := omega) only [sI_o, sI_k, sI_n, sA_o, sA_s, sI_2, sA_2, sL_1, sL_o]
  have s81 : (sEnd u).1 81 = u.1 81 := by unfold sEnd; simp (disch := omega) only [sI_o, sI_k, sI_n, sA_o, sA_s, sI_2, sA_2, sL_1, sL_o]
  have sk : ∀ c, c ≠ 77 → c ≠ 92 → (sEnd u).1 c = u.1 c := fun c c1 c2 => by unfold sEnd; simp (disch := omega) only [sI_o, sI_k, sI_n, sA_o, sA_s, sI_2, sA_2, sL_1, sL_o]
  have s77 : ∀ j, j ≠ 17 → j ≠ 21 → j ≠ 19 → j ≠ 9 → (sEnd u).1 77 j = u.1 77 j := fun j j1 j2 j3 j4 => by unfold sEnd; rw [sI_o (by omega), sI_o (by omega), sI_n j4, sI_n j3, sI_n j2, sI_n j1]
  refine ⟨sEnd u, ?_, ⟨⟨?_, ?_, ?_⟩, ⟨?_, fun i v h => by cases h⟩, fun i hi => ⟨fun _ => ?_, fun s v h => by cases h⟩, ?_⟩, by rw [s79, h79 0 (by omega)]; exact a1, fun c hc => ⟨by rw [sk c (by omega) (by omega), hk c (by omega) (by omega)], by show u.2 c = σ.2 c; rw [u5, z5, y5, x4]⟩⟩
  · unfold m_X11_starts
    rw [show (0 : Int32) = nI 0 from rfl, x1]
    refine Eq.trans ?_ u1
    refine Eq.trans ?_ z1
    exact y1
  · rw [s79]
    refine ⟨by rw [h79 0 (by omega)]; exact a1, by rw [h79 1 (by omega)]; exact a2, by rw [h79 2 (by omega)]; exact a3, by rw [h79 3 (by omega)]; exact a4, fun r hr => by rw [h79 _ (by omega)]; exact a6 r hr, fun t ht => ?_⟩
    have ht' : t < tK (sW S) := ht
    rw [h79 _ (by omega)]; exact (a8 t ht').2.1
  · rw [s81]
    have h0 : ∀ j, j < 3 → u.1 81 j = y.1 81 j := fun j hj => by rw [u3 j (by omega), z3 j (by omega)]
    refine ⟨by rw [h0 0 (by omega), y3 0 (by omega) (by omega)]; rfl, by rw [h0 1 (by omega), y3 1 (by omega) (by omega)]; rfl, by rw [h0 2 (by omega), y2]; rfl, fun p hp => ?_, fun t ht => ?_⟩
    · have hp' : p < tP (sW S) := hp
      have := a7 p hp'
      refine ⟨?_, ?_⟩
      · rw [u3 _ (by omega), z2 (2 * p) (by omega), y4 79 (by omega), x2 _ (by omega)]; exact this.1
      · rw [show 3 + 2 * p + 1 = 3 + (2 * p + 1) by omega, u3 _ (by omega), z2 (2 * p + 1) (by omega), y4 79 (by omega), x2 _ (by omega), show 9 + (2 * p + 1) = 9 + 2 * p + 1 by omega]; exact this.2
    · have ht' : t < tK (sW S) := ht
      have h := a8 t ht'
      have g := u2 t ht'
      rw [z4 79 (by omega), y4 79 (by omega), x2 _ (by omega), x2 _ (by omega)] at g
      exact ⟨g.1.trans h.1, g.2.1, g.2.2.trans h.2.2⟩
  · rw [s77 8 (by omega) (by omega) (by omega) (by omega), hk 77 (by omega) (by omega)]; exact h8
  · show (sEnd u).1 77 9 = nI 0
    unfold sEnd; rw [sI_o (by omega), sI_o (by omega), sI_k]; rfl
  · rcases (show i = 0 ∨ i = 1 by omega) with e | e <;> subst e
    · show (sEnd u).1 92 0 = 0
      unfold sEnd; rw [sI_n (by omega), sI_k]
    · show (sEnd u).1 92 41 = 0
      unfold sEnd; rw [sI_k]
  · refine ⟨?_, fun i hi => absurd hi (Nat.not_lt_zero _), ?_, fun p _ hb => ?_, ?_, fun i hi => absurd hi (Nat.not_lt_zero _), ?_, fun i hi => absurd hi (Nat.not_lt_zero _), ?_⟩
    · show (sEnd u).1 77 17 = nI 0
      unfold sEnd; rw [sI_o (by omega), sI_o (by omega), sI_n (by omega), sI_n (by omega), sI_n (by omega), sI_k]; rfl
    · show (sEnd u).1 77 19 = nI 0
      unfold sEnd; rw [sI_o (by omega), sI_o (by omega), sI_n (by omega), sI_k]; rfl
    · exact absurd hb (by show ¬ bt 0 p = true; rw [bt_0]; simp)
    · show (sEnd u).1 77 21 = nI 0
      unfold sEnd; rw [sI_o (by omega), sI_o (by omega), sI_n (by omega), sI_n (by omega), sI_k]; rfl
    · show (sEnd u).1 77 3 = nI 0
      rw [s77 3 (by omega) (by omega) (by omega) (by omega), hk 77 (by omega) (by omega), h3]; rfl
    · show (sEnd u).1 77 6 = -1
      rw [s77 6 (by omega) (by omega) (by omega) (by omega), hk 77 (by omega) (by omega), h6]

def G0 (r : Nat) : Nat := if r = 0 then 6 else if r = 3 then 65 else 18
def S0 : Sx := ((((0, 0, 4, 1), G0, fun _ => 0), 0, 0), fun _ => 0, fun _ => 0, fun _ => 0, fun _ => 0)
theorem S0_ok : SOK S0 := by
  refine ⟨⟨by decide, by decide, by decide, by decide, by decide, fun r _ => ?_, fun t ht => absurd ht (Nat.not_lt_zero _), fun h => absurd h (Nat.not_lt_zero _)⟩, by decide, by decide, fun p hp => absurd hp (Nat.not_lt_zero _), fun t ht => absurd ht (Nat.not_lt_zero _)⟩
  show G0 r ≤ 99
  unfold G0
  split <;> (try split) <;> omega
def pEnd (σ : g_St) : g_St := g_sI (g_sI (g_sI (g_sI (g_sI (g_sI σ 78 2 4) 78 3 1) 78 5 6) 78 6 18) 78 7 18) 78 8 65
theorem r_plain2 {N : Nat} : ∀ m k fu σ, k + m = 45 → m < fu → (∀ j, j < k → σ.1 78 j = 0) → ∃ τ, m_X11_plain_2 N fu (nI k) σ = some (pEnd τ) ∧ (∀ j, j < 45 → τ.1 78 j = 0) ∧ (∀ c, c ≠ 78 → τ.1 c = σ.1 c) ∧ τ.2 = σ.2 := by
  intro m
  induction m with
  | zero =>
    intro k fu σ hk hf h
    obtain ⟨fu, rfl⟩ : ∃ f, fu = f + 1 := ⟨fu - 1, by omega⟩
    refine ⟨σ, ?_, fun j hj => h j (by omega), fun c _ => rfl, rfl⟩
    unfold m_X11_plain_2
    rw [if_pos (show (45 : Int32) ≤ nI k from a_le (a := 45) k (by omega) (by omega))]
    rfl
  | succ m ih =>
    intro k fu σ hk hf h
    obtain ⟨fu, rfl⟩ : ∃ f, fu = f + 1 := ⟨fu - 1, by omega⟩
    obtain ⟨τ, t1, t2, t3, t4⟩ := ih (k + 1) fu (g_sI σ 78 k 0) (by omega) (by omega) (fun j hj => by
      by_cases e : j = k
      · rw [e, sI_k]
      · rw [sI_n e]; exact h j (by omega))
    refine ⟨τ, ?_, t2, fun c hc => by rw [t3 c hc]; simp (disch := omega) only [sI_o, sI_k, sI_n, sA_o, sA_s, sI_2, sA_2, sL_1, sL_o], by rw [t4]; rfl⟩
    rw [← t1]
    conv => lhs; unfold m_X11_plain_2 g_lt
    rw [if_neg (show ¬ (45 : Int32) ≤ nI k from a_nle (a := 45) k (by omega) (by omega)), if_pos (a_in (by omega) (by omega)), nI_clamp (by omega), nI_1]
theorem r_plain {N : Nat} {σ : g_St} (hN : 300 < N) : ∃ τ, m_X11_plain N σ = some τ ∧ RS S0 τ ∧ (∀ c, c ≠ 78 → τ.1 c = σ.1 c) ∧ τ.2 = σ.2 := by
  obtain ⟨τ, t1, t2, t3, t4⟩ := r_plain2 (N := N) 45 0 N σ (by omega) (by omega) (fun j hj => by omega)
  have key : ∀ j, j ≠ 2 → j ≠ 3 → j ≠ 5 → j ≠ 6 → j ≠ 7 → j ≠ 8 → (pEnd τ).1 78 j = τ.1 78 j := fun j j1 j2 j3 j4 j5 j6 => by unfold pEnd; rw [sI_n j6, sI_n j5, sI_n j4, sI_n j3, sI_n j2, sI_n j1]
  refine ⟨pEnd τ, ?_, ⟨⟨?_, ?_, ?_, ?_⟩, ?_, fun r hr => ?_, fun p hp => absurd hp (Nat.not_lt_zero _), fun t ht => absurd ht (Nat.not_lt_zero _)⟩, fun c hc => by unfold pEnd; rw [sI_o hc, sI_o hc, sI_o hc, sI_o hc, sI_o hc, sI_o hc, t3 c hc], by show τ.2 = σ.2; exact t4⟩
  · unfold m_X11_plain
    exact t1
  · rw [key 0 (by omega) (by omega) (by omega) (by omega) (by omega) (by omega), t2 0 (by omega)]; rfl
  · rw [key 1 (by omega) (by omega) (by omega) (by omega) (by omega) (by omega), t2 1 (by omega)]; rfl
  · unfold pEnd; simp (disch := omega) only [sI_o, sI_k, sI_n, sA_o, sA_s, sI_2, sA_2, sL_1, sL_o]; rfl
  · unfold pEnd; simp (disch := omega) only [sI_o, sI_k, sI_n, sA_o, sA_s, sI_2, sA_2, sL_1, sL_o]; rfl
  · rw [key 4 (by omega) (by omega) (by omega) (by omega) (by omega) (by omega), t2 4 (by omega)]; rfl
  · rcases (show r = 0 ∨ r = 1 ∨ r = 2 ∨ r = 3 by omega) with e | e | e | e <;> subst e
    · show (pEnd τ).1 78 5 = nI 6
      unfold pEnd; simp (disch := omega) only [sI_o, sI_k, sI_n, sA_o, sA_s, sI_2, sA_2, sL_1, sL_o]; rfl
    · show (pEnd τ).1 78 6 = nI 18
      unfold pEnd; simp (disch := omega) only [sI_o, sI_k, sI_n, sA_o, sA_s, sI_2, sA_2, sL_1, sL_o]; rfl
    · show (pEnd τ).1 78 7 = nI 18
      unfold pEnd; simp (disch := omega) only [sI_o, sI_k, sI_n, sA_o, sA_s, sI_2, sA_2, sL_1, sL_o]; rfl
    · show (pEnd τ).1 78 8 = nI 65
      unfold pEnd; simp (disch := omega) only [sI_o, sI_k, sI_n, sA_o, sA_s, sI_2, sA_2, sL_1, sL_o]; rfl
theorem c_f10 {N : Nat} : ∀ m x fu σ, x + m = 8 → m < fu → (∀ y, y < x → σ.1 10 y = -1) → ∃ τ, m_J7_fill_10_5 N fu (-1) (nI x) 8 σ = some τ ∧ (∀ y, y < 8 → τ.1 10 y = -1) ∧ (∀ c, c ≠ 10 → τ.1 c = σ.1 c) ∧ τ.2 = σ.2 := by
  intro m
  induction m with
  | zero =>
    intro x fu σ hx hf h
    obtain ⟨fu, rfl⟩ : ∃ f, fu = f + 1 := ⟨fu - 1, by omega⟩
    refine ⟨σ, ?_, fun y hy => h y (by omega), fun c _ => rfl, rfl⟩
    unfold m_J7_fill_10_5
    rw [if_pos (show (8 : Int32) ≤ nI x from a_le (a := 8) x (by omega) (by omega))]
  | succ m ih =>
    intro x fu σ hx hf h
    obtain ⟨fu, rfl⟩ : ∃ f, fu = f + 1 := ⟨fu - 1, by omega⟩
    obtain ⟨τ, t1, t2, t3, t4⟩ := ih (x + 1) fu (g_sI σ 10 x (-1)) (by omega) (by omega) (fun y hy => by
      by_cases e : y = x
      · subst e; rw [sI_k]
      · rw [sI_n e]; exact h y (by omega))
    refine ⟨τ, ?_, t2, fun c hc => by rw [t3 c hc]; simp (disch := omega) only [sI_o, sI_k, sI_n, sA_o, sA_s, sI_2, sA_2, sL_1, sL_o], by rw [t4]; rfl⟩
    rw [← t1]
    conv => lhs; unfold m_J7_fill_10_5 g_lt
    rw [if_neg (show ¬ (8 : Int32) ≤ nI x from a_nle (a := 8) x (by omega) (by omega)), if_pos (a_in (by omega) (by omega)), nI_clamp (by omega), nI_1]
def uEnd (σ : g_St) : g_St := g_sI (g_sI (g_sI (g_sI (g_sI (g_sI (g_sI (g_sI σ 3 2 0) 3 3 0) 3 4 4) 3 5 1) 5 0 6) 5 1 18) 5 2 18) 5 3 65
def vEnd (σ : g_St) : g_St := g_sI (g_sI (g_sI (g_sI (g_sI (g_sI (g_sI (g_sI (g_sI σ 2 3 0) 2 4 0) 2 5 0) 2 6 0) 2 7 0) 2 8 0) 2 9 0) 2 10 0) 2 11 (-1)
theorem c_rbegin {N : Nat} {σ : g_St} (hN : 300 < N) : ∃ τ, m_X6_begin N σ = some τ ∧ QS S0 0 0 (fun _ => 0) τ ∧ (∀ y, y < 8 → τ.1 10 y = -1) ∧ (∀ c, (c < 2 ∨ c = 6 ∨ 12 < c) → τ.1 c = σ.1 c) ∧ τ.2 = σ.2 := by
  obtain ⟨x, x1, x2, x3, x4⟩ := c_f10 (N := N) 8 0 N (uEnd σ) (by omega) (by omega) (fun y hy => by omega)
  have hv : ∀ c, c ≠ 2 → (vEnd x).1 c = x.1 c := fun c hc => by unfold vEnd; rw [sI_o hc, sI_o hc, sI_o hc, sI_o hc, sI_o hc, sI_o hc, sI_o hc, sI_o hc, sI_o hc]
  have hu : ∀ c, c ≠ 3 → c ≠ 5 → (uEnd σ).1 c = σ.1 c := fun c c1 c2 => by unfold uEnd; rw [sI_o c2, sI_o c2, sI_o c2, sI_o c2, sI_o c1, sI_o c1, sI_o c1, sI_o c1]
  refine ⟨vEnd x, ?_, ⟨⟨⟨?_, ?_, ?_, ?_⟩, ⟨?_, ?_⟩, fun r hr => ?_, fun t ht => absurd ht (Nat.not_lt_zero _), fun p hp => absurd hp (Nat.not_lt_zero _)⟩, ⟨?_, ?_, ?_⟩, ⟨?_, ?_⟩, fun i hi => by omega⟩, fun y hy => by rw [hv 10 (by omega)]; exact x2 y hy, fun c hc => by rw [hv c (by omega), x3 c (by omega), hu c (by omega) (by omega)], by show x.2 = σ.2; rw [x4]; rfl⟩
  · unfold m_X6_begin
    have e1 : m_X7_setUntold_3 σ = some (uEnd σ) := rfl
    rw [e1, Option.bind_some]
    unfold m_J7_fill_10
    rw [show (0 : Int32) = nI 0 from rfl, x1, Option.bind_some]
    rfl
  · rw [hv 3 (by omega), x3 3 (by omega)]; unfold uEnd; simp (disch := omega) only [sI_o, sI_k, sI_n, sA_o, sA_s, sI_2, sA_2, sL_1, sL_o]; rfl
  · rw [hv 3 (by omega), x3 3 (by omega)]; unfold uEnd; simp (disch := omega) only [sI_o, sI_k, sI_n, sA_o, sA_s, sI_2, sA_2, sL_1, sL_o]; rfl
  · rw [hv 3 (by omega), x3 3 (by omega)]; unfold uEnd; simp (disch := omega) only [sI_o, sI_k, sI_n, sA_o, sA_s, sI_2, sA_2, sL_1, sL_o]; rfl
  · rw [hv 3 (by omega), x3 3 (by omega)]; unfold uEnd; simp (disch := omega) only [sI_o, sI_k, sI_n, sA_o, sA_s, sI_2, sA_2, sL_1, sL_o]; rfl
  · unfold vEnd; simp (disch := omega) only [sI_o, sI_k, sI_n, sA_o, sA_s, sI_2, sA_2, sL_1, sL_o]; rfl
  · unfold vEnd; simp (disch := omega) only [sI_o, sI_k, sI_n, sA_o, sA_s, sI_2, sA_2, sL_1, sL_o]; rfl
  · rw [hv 5 (by omega), x3 5 (by omega)]
    rcases (show r = 0 ∨ r = 1 ∨ r = 2 ∨ r = 3 by omega) with e | e | e | e <;> subst e
    · show (uEnd σ).1 5 0 = nI 6
      unfold uEnd; simp (disch := omega) only [sI_o, sI_k, sI_n, sA_o, sA_s, sI_2, sA_2, sL_1, sL_o]; rfl
    · show (uEnd σ).1 5 1 = nI 18
      unfold uEnd; simp (disch := omega) only [sI_o, sI_k, sI_n, sA_o, sA_s, sI_2, sA_2, sL_1, sL_o]; rfl
    · show (uEnd σ).1 5 2 = nI 18
      unfold uEnd; simp (disch := omega) only [sI_o, sI_k, sI_n, sA_o, sA_s, sI_2, sA_2, sL_1, sL_o]; rfl
    · show (uEnd σ).1 5 3 = nI 65
      unfold uEnd; simp (disch := omega) only [sI_o, sI_k, sI_n, sA_o, sA_s, sI_2, sA_2, sL_1, sL_o]; rfl
  · unfold vEnd; simp (disch := omega) only [sI_o, sI_k, sI_n, sA_o, sA_s, sI_2, sA_2, sL_1, sL_o]; rfl
  · unfold vEnd; simp (disch := omega) only [sI_o, sI_k, sI_n, sA_o, sA_s, sI_2, sA_2, sL_1, sL_o]; rfl
  · unfold vEnd; simp (disch := omega) only [sI_o, sI_k, sI_n, sA_o, sA_s, sI_2, sA_2, sL_1, sL_o]
  · unfold vEnd; simp (disch := omega) only [sI_o, sI_k, sI_n, sA_o, sA_s, sI_2, sA_2, sL_1, sL_o]
  · unfold vEnd; simp (disch := omega) only [sI_o, sI_k, sI_n, sA_o, sA_s, sI_2, sA_2, sL_1, sL_o]
abbrev lx (d : Dt) : Nat → Nat := fun i => (dLet d).getD i 0
abbrev ln (d : Dt) : Nat := (dLet d).length
theorem lx_8 {d : Dt} (ok : OK d) : ∀ i, i < ln d → lx d i < 256 := fun i hi => by
  refine ok.2.2.2.2.2.2.2.2.2 _ ?_
  show (dLet d).getD i 0 ∈ dLet d
  rw [List.getD_eq_getElem?_getD, List.getElem?_eq_getElem hi]
  exact List.getElem_mem hi
noncomputable def twR : Sum (Nat × Nat) Sx → Int32
  | .inl (q, _) => (-10 : Int32) - nI q
  | .inr S => nI (tP (sW S))
noncomputable def twD (d : Dt) : Sum (Nat × Nat) Sx → Dt
  | .inl (_, p) => dFx d (nI p)
  | .inr S => dSx d S
theorem RR_let {d : Dt} {σ τ : g_St} {fa : Int32} (h : RR d σ) (k : ∀ c, c ≠ 77 → c ≠ 78 → τ.1 c = σ.1 c) (k7 : ∀ j, j ≠ 3 → j ≠ 4 → j ≠ 5 → j ≠ 6 → τ.1 77 j = σ.1 77 j) (h3 : τ.1 77 3 = 0) (h6 : τ.1 77 6 = fa) : RR (dFx d fa) τ := by
  obtain ⟨⟨a1, a2, a3⟩, h2, h3', b1, b2, b3, b4, b5, b6, b7, b8, b9⟩ := h
  refine ⟨⟨?_, ?_, ?_⟩, ?_, ?_, ?_, ?_, ?_, fun p hp hb => ?_, ?_, ?_, ?_, fun i hi => absurd hi (Nat.not_lt_zero _), h6⟩
  · rw [k 79 (by omega) (by omega)]; exact a1
  · rw [k 81 (by omega) (by omega)]; exact a2
  · rw [k7 8 (by omega) (by omega) (by omega) (by omega)]; exact a3
  · exact RRu_k h2 rfl rfl (k7 9 (by omega) (by omega) (by omega) (by omega)) (k 82 (by omega) (by omega))
  · exact RRk_k h3' rfl rfl (k 92 (by omega) (by omega))
  · rw [k7 17 (by omega) (by omega) (by omega) (by omega)]; exact b1
  · rw [k 89 (by omega) (by omega)]; exact b2
  · rw [k7 19 (by omega) (by omega) (by omega) (by omega)]; exact b3
  · rw [k 90 (by omega) (by omega)]; exact b4 p hp hb
  · rw [k7 21 (by omega) (by omega) (by omega) (by omega)]; exact b5
  · rw [k 91 (by omega) (by omega)]; exact b6
  · rw [h3]; rfl
theorem twD_ok {d : Dt} {o : Sum (Nat × Nat) Sx} (ok : OK d) (h : ∀ S, o = .inr S → SOK S) : OK (twD d o) := by
  cases o with
  | inl z => obtain ⟨q, p⟩ := z; exact dFx_ok ok
  | inr S => exact dSx_ok ok.2.2.1.1 (h S rfl)
theorem clS_ok {x : Nat → Nat} {n b : Nat} {S S' : Sx} {a' : Nat} (hb : b < n) (hS : SOK S) (h : clS x n S b = .inr (S', a')) : SOK S' ∧ a' ≤ n := by
  unfold clS at h
  by_cases hw : isW (x b)
  · rw [show (@ite (Sum (Nat × Nat) (Sx × Nat)) (isW (x b)) (Classical.propDecidable _) _ (.inl (1, b))) = _ from if_pos hw] at h
    by_cases hm : manyS (x b) S
    · rw [show (@ite (Sum (Nat × Nat) (Sx × Nat)) (manyS (x b) S) (Classical.propDecidable _) (.inl (3, b)) _) = _ from if_pos hm] at h
      cases h
    · rw [show (@ite (Sum (Nat × Nat) (Sx × Nat)) (manyS (x b) S) (Classical.propDecidable _) (.inl (3, b)) _) = _ from if_neg hm] at h
      cases hr : nsR x n (x b) (tP (sW S)) (nOf (x b)) 0 (b + 1) (fun _ => 0) with
      | inl w => rw [hr] at h; cases h
      | inr w =>
        obtain ⟨g, a⟩ := w
        obtain ⟨r1, r2, r3, r4⟩ := nsR_p _ _ _ _ _ _ (show b + 1 ≤ n by omega) hr
        rw [hr] at h
        dsimp only at h
        by_cases hc : skp x n a < n ∧ x (skp x n a) = 59
        · rw [if_pos hc] at h
          cases h
          exact ⟨addS_ok hS hw hm (fun i hi => r4 i (by omega) (by omega)), by omega⟩
        · rw [if_neg hc] at h; cases h
  · rw [show (@ite (Sum (Nat × Nat) (Sx × Nat)) (isW (x b)) (Classical.propDecidable _) _ (.inl (1, b))) = _ from if_neg hw] at h
    cases h
theorem prs_ok {x : Nat → Nat} {n : Nat} : ∀ m a S S', SOK S → prs x n m a S = .inr S' → SOK S'
  | 0, a, S, S', hS, h => by cases h; exact hS
  | m + 1, a, S, S', hS, h => by
    unfold prs at h
    by_cases hb : skp x n a < n
    · rw [if_pos hb] at h
      cases hr : clS x n S (skp x n a) with
      | inl w => rw [hr] at h; cases h
      | inr w =>
        obtain ⟨S1, a1⟩ := w
        rw [hr] at h
        exact prs_ok m a1 S1 S' (clS_ok hb hS hr).1 h
    · rw [if_neg hb] at h
      cases h
      exact hS
noncomputable abbrev twO (d : Dt) : Sum (Nat × Nat) Sx := prs (lx d) (ln d) (ln d + 1) 0 S0
theorem r_town {d : Dt} {N : Nat} {σ : g_St} (ok : OK d) (hN : 300 < N) (h : RR d σ) : ∃ τ, m_X11_town N σ = some (twR (twO d), τ) ∧ RR (twD d (twO d)) τ ∧ keepC σ τ := by
  have hn : ln d ≤ 250 := ok.2.2.2.2.2.2.2.2.1
  obtain ⟨σ3, e3⟩ : ∃ s, s = g_sI (g_sI (g_sI σ 77 4 0) 77 5 0) 77 6 (-1) := ⟨_, rfl⟩
  obtain ⟨p, p1, p2, p3, p4⟩ := r_plain (N := N) (σ := σ3) hN
  obtain ⟨b1, b2, b3, b4, b5, b6, b7, b8, b9⟩ := h.2.2.2
  have hL : LT (lx d) (ln d) p := ⟨by rw [p3 77 (by omega), e3]; simp (disch := omega) only [sI_o, sI_k, sI_n, sA_o, sA_s, sI_2, sA_2, sL_1, sL_o]; exact b7, fun i hi => by rw [p3 80 (by omega), e3]; simp (disch := omega) only [sI_o, sI_k, sI_n, sA_o, sA_s, sI_2, sA_2, sL_1, sL_o]; exact b8 i hi⟩
  have hM : RM (ln d) (.inr 0) p := ⟨by rw [p3 77 (by omega), e3]; simp (disch := omega) only [sI_o, sI_k, sI_n, sA_o, sA_s, sI_2, sA_2, sL_1, sL_o]; rfl, by rw [p3 77 (by omega), e3]; simp (disch := omega) only [sI_o, sI_k, sI_n, sA_o, sA_s, sI_2, sA_2, sL_1, sL_o], by rw [p3 77 (by omega), e3]; simp (disch := omega) only [sI_o, sI_k, sI_n, sA_o, sA_s, sI_2, sA_2, sL_1, sL_o], by omega⟩
  obtain ⟨z, z1, z2, z3⟩ := r_t19 (N := N) hn hN (lx_8 ok) (ln d + 1) 0 S0 N p (by omega) (by omega) S0_ok hL p2 hM
  have pre : m_X11_town N σ = m_X11_town_40 N z := by
    unfold m_X11_town g_lt
    dsimp only
    rw [← e3, p1, Option.bind_some]
    exact z1
  have hzk : ∀ c, c ≠ 77 → c ≠ 78 → z.1 c = σ.1 c := fun c c1 c2 => by rw [z2.1 c c1 c2, p3 c c2, e3]; simp (disch := omega) only [sI_o, sI_k, sI_n, sA_o, sA_s, sI_2, sA_2, sL_1, sL_o]
  have hz7 : ∀ j, j ≠ 4 → j ≠ 5 → j ≠ 6 → z.1 77 j = σ.1 77 j := fun j j1 j2 j3 => by rw [z2.2.1 j j1 j2 j3, p3 77 (by omega), e3, sI_n j3, sI_n j2, sI_n j1]
  have hz2 : z.2 = σ.2 := by rw [z2.2.2, p4, e3]; rfl
  rw [pre]
  cases ho : twO d with
  | inl w =>
    obtain ⟨q, pp⟩ := w
    have z3' : T40 (ln d) (twO d) z := z3
    rw [ho] at z3'
    obtain ⟨m1, m2, m3, m4⟩ := z3'
    refine ⟨g_sI z 77 3 0, ?_, RR_let h (fun c c1 c2 => by rw [sI_o c1]; exact hzk c c1 c2) (fun j j1 j2 j3 j4 => by rw [sI_n j1]; exact hz7 j j2 j3 j4) (by simp (disch := omega) only [sI_o, sI_k, sI_n, sA_o, sA_s, sI_2, sA_2, sL_1, sL_o]) (by simp (disch := omega) only [sI_o, sI_k, sI_n, sA_o, sA_s, sI_2, sA_2, sL_1, sL_o]; exact m2), fun c hc => ⟨by rw [sI_o (by omega)]; exact hzk c (by omega) (by omega), by rw [sI_2, hz2]⟩⟩
    unfold m_X11_town_40 g_lt
    dsimp only
    rw [sI_n (by omega), m1, if_neg (nI_ne0 (by omega) (by omega))]
    rfl
  | inr S =>
    have z3' : T40 (ln d) (twO d) z := z3
    rw [ho] at z3'
    obtain ⟨m1, m2, m3, m4⟩ := z3'
    obtain ⟨τ, t1, t2, t3, t4⟩ := r_starts (d := d) (N := N) (σ := g_sI z 77 3 0) hN m4 (by unfold RS at *; rw [sI_o (by omega)]; exact m3) (by rw [sI_n (by omega), hz7 8 (by omega) (by omega) (by omega)]; exact h.1.2.2) (by simp (disch := omega) only [sI_o, sI_k, sI_n, sA_o, sA_s, sI_2, sA_2, sL_1, sL_o]) (by simp (disch := omega) only [sI_o, sI_k, sI_n, sA_o, sA_s, sI_2, sA_2, sL_1, sL_o]; exact m2)
    refine ⟨τ, ?_, t2, fun c hc => ⟨by rw [(t4 c hc).1, sI_o (by omega), hzk c (by omega) (by omega)], by rw [(t4 c hc).2, sI_2, hz2]⟩⟩
    unfold m_X11_town_40 g_lt
    dsimp only
    rw [sI_n (by omega), m1, if_pos rfl, t1, Option.bind_some, t3]
    rfl
