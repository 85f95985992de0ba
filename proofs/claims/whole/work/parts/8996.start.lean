/-! the start -/
theorem sR_o {σ : g_St} {n N c : Nat} (h : c ≤ n ∨ n + N < c) : (g_sR σ n N).1 c = σ.1 c := if_neg (by omega)
theorem sB_1 {σ : g_St} {c : Nat} {g : Nat → Int64} : (g_sB σ c g).1 = σ.1 := rfl
def iR (σ3 : g_St) : Option g_St := (g_lt (g_sA σ3 13 (fun _ => 0)) fun σ4 => ((m_X7_init_13 σ4).bind fun σ5 => (g_lt (g_sA σ5 16 (fun _ => 0)) fun σ6 => ((m_X4_init_16 σ6).bind fun σ7 => (g_lt (g_sA σ7 22 (fun _ => 0)) fun σ8 => ((m_X5_init_22 σ8).bind fun σ9 => (g_lt (g_sA σ9 54 (fun _ => 0)) fun σ10 => ((m_X3_init_54 σ10).bind fun σ11 => (g_lt (g_sA σ11 59 (fun _ => 0)) fun σ12 => ((m_X2_init_59 σ12).bind fun σ13 => (g_lt (g_sA σ13 63 (fun _ => 0)) fun σ14 => ((m_X9_init_63 σ14).bind fun σ15 => (g_lt (g_sA σ15 67 (fun _ => 0)) fun σ16 => ((m_X8_init_67 σ16).bind fun σ17 => (g_lt (g_sA σ17 69 (fun _ => 0)) fun σ18 => ((m_X1_init_69 σ18).bind fun σ19 => (g_lt (g_sA σ19 74 (fun _ => 0)) fun σ20 => ((m_X0_init_74 σ20).bind fun σ21 => (g_lt (g_sA σ21 76 (fun _ => 0)) fun σ22 => (g_lt (g_sI σ22 0 12 (0 : Int32)) fun σ23 => (g_lt (g_sI σ23 0 13 (-1 : Int32)) fun σ24 => (g_lt (g_sI σ24 0 14 (0 : Int32)) fun σ25 => some σ25))))))))))))))))))))))
def j3 (σ : g_St) : g_St := g_sA (g_sA σ 1 (fun _ => 0)) 2 (fun _ => 0)
def j4 (σ : g_St) : g_St := uEnd (g_sA (g_sA (g_sA σ 3 (fun _ => 0)) 4 (fun _ => 0)) 5 (fun _ => 0))
def j5 (σ : g_St) : g_St := g_sI (g_sI (g_sI (g_sA (g_sA (g_sA (g_sA (g_sA (g_sA σ 6 (fun _ => 0)) 7 (fun _ => 0)) 8 (fun _ => 0)) 9 (fun _ => 0)) 10 (fun _ => 0)) 11 (fun _ => 0)) 6 5 0) 6 6 0) 6 7 0
def j6 (σ : g_St) : g_St := g_sA σ 12 (fun _ => 0)
theorem i_eq {N : Nat} {σ : g_St} : m_X10_init_0 N σ = (m_X6_init_2 N (j3 σ)).bind iR := rfl
theorem i_eq2 {N : Nat} {σ : g_St} : m_X6_init_2 N σ = (m_X6_begin N (j6 (j5 (j4 σ)))).bind fun σ6 => some σ6 := rfl
def dz : Dt := ((((0, 0, 4, 1), G0, fun _ => 0), ((0, 0, 0), fun _ => 0, fun _ => 0, fun _ => 0, fun _ => none, fun _ => 0)), (0, [], fun _ => none), ([], 0, fun _ => 0), [], ([], -1))
theorem c_i13 (σ : g_St) : ∃ τ, m_X7_init_13 σ = some τ ∧ (τ.1 13 2 = 0 ∧ τ.1 13 3 = 0 ∧ τ.1 13 4 = 4 ∧ τ.1 13 5 = 1) ∧ (τ.1 15 0 = 6 ∧ τ.1 15 1 = 18 ∧ τ.1 15 2 = 18 ∧ τ.1 15 3 = 65) ∧ (∀ c, c < 13 ∨ 15 < c → τ.1 c = σ.1 c) := by
  unfold m_X7_init_13 m_X7_setUntold g_lt
  dsimp only
  rw [Option.bind_some]
  exact ⟨_, rfl, ⟨by simp (disch := omega) only [sI_o, sI_k, sI_n, sA_o, sA_s, sI_2, sA_2, sL_1, sL_o, sR_o, sB_1], by simp (disch := omega) only [sI_o, sI_k, sI_n, sA_o, sA_s, sI_2, sA_2, sL_1, sL_o, sR_o, sB_1], by simp (disch := omega) only [sI_o, sI_k, sI_n, sA_o, sA_s, sI_2, sA_2, sL_1, sL_o, sR_o, sB_1], by simp (disch := omega) only [sI_o, sI_k, sI_n, sA_o, sA_s, sI_2, sA_2, sL_1, sL_o, sR_o, sB_1]⟩, ⟨by simp (disch := omega) only [sI_o, sI_k, sI_n, sA_o, sA_s, sI_2, sA_2, sL_1, sL_o, sR_o, sB_1], by simp (disch := omega) only [sI_o, sI_k, sI_n, sA_o, sA_s, sI_2, sA_2, sL_1, sL_o, sR_o, sB_1], by simp (disch := omega) only [sI_o, sI_k, sI_n, sA_o, sA_s, sI_2, sA_2, sL_1, sL_o, sR_o, sB_1], by simp (disch := omega) only [sI_o, sI_k, sI_n, sA_o, sA_s, sI_2, sA_2, sL_1, sL_o, sR_o, sB_1]⟩, fun c hc => by simp (disch := omega) only [sI_o, sI_k, sI_n, sA_o, sA_s, sI_2, sA_2, sL_1, sL_o, sR_o, sB_1]⟩
theorem c_i16 (σ : g_St) : ∃ τ, m_X4_init_16 σ = some τ ∧ (τ.1 16 5 = 0 ∧ τ.1 16 6 = 0 ∧ τ.1 16 7 = 0) ∧ (∀ c, c < 16 ∨ 21 < c → τ.1 c = σ.1 c) := by
  unfold m_X4_init_16 g_lt
  exact ⟨_, rfl, ⟨by simp (disch := omega) only [sI_o, sI_k, sI_n, sA_o, sA_s, sI_2, sA_2, sL_1, sL_o, sR_o, sB_1], by simp (disch := omega) only [sI_o, sI_k, sI_n, sA_o, sA_s, sI_2, sA_2, sL_1, sL_o, sR_o, sB_1], by simp (disch := omega) only [sI_o, sI_k, sI_n, sA_o, sA_s, sI_2, sA_2, sL_1, sL_o, sR_o, sB_1]⟩, fun c hc => by simp (disch := omega) only [sI_o, sI_k, sI_n, sA_o, sA_s, sI_2, sA_2, sL_1, sL_o, sR_o, sB_1]⟩
theorem c_i22 (σ : g_St) : ∃ τ, m_X5_init_22 σ = some τ ∧ (τ.1 22 1 = 0 ∧ τ.1 22 2 = 0) ∧ (∀ c, c < 22 ∨ 53 < c → τ.1 c = σ.1 c) := by
  unfold m_X5_init_22 g_lt
  exact ⟨_, rfl, ⟨by simp (disch := omega) only [sI_o, sI_k, sI_n, sA_o, sA_s, sI_2, sA_2, sL_1, sL_o, sR_o, sB_1], by simp (disch := omega) only [sI_o, sI_k, sI_n, sA_o, sA_s, sI_2, sA_2, sL_1, sL_o, sR_o, sB_1]⟩, fun c hc => by simp (disch := omega) only [sI_o, sI_k, sI_n, sA_o, sA_s, sI_2, sA_2, sL_1, sL_o, sR_o, sB_1]⟩
theorem c_i54 (σ : g_St) : ∃ τ, m_X3_init_54 σ = some τ ∧ τ.1 54 2 = 0 ∧ (∀ c, c < 54 ∨ 58 < c → τ.1 c = σ.1 c) := by
  unfold m_X3_init_54 g_lt
  exact ⟨_, rfl, by simp (disch := omega) only [sI_o, sI_k, sI_n, sA_o, sA_s, sI_2, sA_2, sL_1, sL_o, sR_o, sB_1], fun c hc => by simp (disch := omega) only [sI_o, sI_k, sI_n, sA_o, sA_s, sI_2, sA_2, sL_1, sL_o, sR_o, sB_1]⟩
theorem c_i59 (σ : g_St) : ∃ τ, m_X2_init_59 σ = some τ ∧ (∀ c, c < 59 ∨ 62 < c → τ.1 c = σ.1 c) := by
  unfold m_X2_init_59 g_lt
  exact ⟨_, rfl, fun c hc => by simp (disch := omega) only [sI_o, sI_k, sI_n, sA_o, sA_s, sI_2, sA_2, sL_1, sL_o, sR_o, sB_1]⟩
theorem c_i63 (σ : g_St) : ∃ τ, m_X9_init_63 σ = some τ ∧ (∀ c, c < 63 ∨ 66 < c → τ.1 c = σ.1 c) := by
  unfold m_X9_init_63 g_lt
  exact ⟨_, rfl, fun c hc => by simp (disch := omega) only [sI_o, sI_k, sI_n, sA_o, sA_s, sI_2, sA_2, sL_1, sL_o, sR_o, sB_1]⟩
theorem c_i67 (σ : g_St) : ∃ τ, m_X8_init_67 σ = some τ ∧ τ.1 67 1 = 0 ∧ (∀ c, c < 67 ∨ 68 < c → τ.1 c = σ.1 c) := by
  unfold m_X8_init_67 g_lt
  exact ⟨_, rfl, by simp (disch := omega) only [sI_o, sI_k, sI_n, sA_o, sA_s, sI_2, sA_2, sL_1, sL_o, sR_o, sB_1], fun c hc => by simp (disch := omega) only [sI_o, sI_k, sI_n, sA_o, sA_s, sI_2, sA_2, sL_1, sL_o, sR_o, sB_1]⟩
theorem c_i69 (σ : g_St) : ∃ τ, m_X1_init_69 σ = some τ ∧ τ.1 69 4 = 0 ∧ (∀ c, c < 69 ∨ 73 < c → τ.1 c = σ.1 c) := by
  unfold m_X1_init_69 g_lt
  exact ⟨_, rfl, by simp (disch := omega) only [sI_o, sI_k, sI_n, sA_o, sA_s, sI_2, sA_2, sL_1, sL_o, sR_o, sB_1], fun c hc => by simp (disch := omega) only [sI_o, sI_k, sI_n, sA_o, sA_s, sI_2, sA_2, sL_1, sL_o, sR_o, sB_1]⟩
theorem c_i74 (σ : g_St) : ∃ τ, m_X0_init_74 σ = some τ ∧ τ.1 74 1 = 0 ∧ (∀ c, c < 74 ∨ 75 < c → τ.1 c = σ.1 c) := by
  unfold m_X0_init_74 g_lt
  exact ⟨_, rfl, by simp (disch := omega) only [sI_o, sI_k, sI_n, sA_o, sA_s, sI_2, sA_2, sL_1, sL_o, sR_o, sB_1], fun c hc => by simp (disch := omega) only [sI_o, sI_k, sI_n, sA_o, sA_s, sI_2, sA_2, sL_1, sL_o, sR_o, sB_1]⟩
theorem g_lt_e {α β : Type} (a : α) (f : α → β) : g_lt a f = f a := rfl
theorem q_run {s a b c e f g h i j k : g_St} (a1 : m_X7_init_13 (g_sA s 13 (fun _ => 0)) = some a) (b1 : m_X4_init_16 (g_sA a 16 (fun _ => 0)) = some b) (c1 : m_X5_init_22 (g_sA b 22 (fun _ => 0)) = some c) (e1 : m_X3_init_54 (g_sA c 54 (fun _ => 0)) = some e) (f1 : m_X2_init_59 (g_sA e 59 (fun _ => 0)) = some f) (g1 : m_X9_init_63 (g_sA f 63 (fun _ => 0)) = some g) (h1 : m_X8_init_67 (g_sA g 67 (fun _ => 0)) = some h) (i1 : m_X1_init_69 (g_sA h 69 (fun _ => 0)) = some i) (j1 : m_X0_init_74 (g_sA i 74 (fun _ => 0)) = some j) (hk : k = g_sI (g_sI (g_sI (g_sA j 76 (fun _ => 0)) 0 12 0) 0 13 (-1)) 0 14 0) : iR s = some k := by
  unfold iR
  rw [g_lt_e, a1, Option.bind_some, g_lt_e, b1, Option.bind_some, g_lt_e, c1, Option.bind_some, g_lt_e, e1, Option.bind_some, g_lt_e, f1, Option.bind_some, g_lt_e, g1, Option.bind_some, g_lt_e, h1, Option.bind_some, g_lt_e, i1, Option.bind_some, g_lt_e, j1, Option.bind_some, g_lt_e, g_lt_e, g_lt_e, g_lt_e, hk]
theorem iR_ok {s : g_St} (h66 : s.1 6 6 = 0) (h67 : s.1 6 7 = 0) : ∃ τ, iR s = some τ ∧ CC (dSx dz S0) τ := by
  obtain ⟨a, a1, a2, a3, a4⟩ := c_i13 (g_sA s 13 (fun _ => 0))
  obtain ⟨b, b1, b2, b3⟩ := c_i16 (g_sA a 16 (fun _ => 0))
  obtain ⟨c, c1, c2, c3⟩ := c_i22 (g_sA b 22 (fun _ => 0))
  obtain ⟨e, e1, e2, e3⟩ := c_i54 (g_sA c 54 (fun _ => 0))
  obtain ⟨f, f1, f3⟩ := c_i59 (g_sA e 59 (fun _ => 0))
  obtain ⟨g, g1, g3⟩ := c_i63 (g_sA f 63 (fun _ => 0))
  obtain ⟨h, h1, h2, h3⟩ := c_i67 (g_sA g 67 (fun _ => 0))
  obtain ⟨i, i1, i2, i3⟩ := c_i69 (g_sA h 69 (fun _ => 0))
  obtain ⟨j, j1, j2, j3⟩ := c_i74 (g_sA i 74 (fun _ => 0))
  obtain ⟨k, hk⟩ : ∃ k, k = g_sI (g_sI (g_sI (g_sA j 76 (fun _ => 0)) 0 12 0) 0 13 (-1)) 0 14 0 := ⟨_, rfl⟩
  have kk : ∀ x, x ≠ 0 → x ≠ 76 → k.1 x = j.1 x := fun x q1 q2 => by rw [hk, sI_o q1, sI_o q1, sI_o q1, sA_o q2]
  have jj : ∀ x, x < 74 → j.1 x = i.1 x := fun x q => by rw [j3 x (by omega), sA_o (by omega)]
  have ii : ∀ x, x < 69 → i.1 x = h.1 x := fun x q => by rw [i3 x (by omega), sA_o (by omega)]
  have hh : ∀ x, x < 67 → h.1 x = g.1 x := fun x q => by rw [h3 x (by omega), sA_o (by omega)]
  have gg : ∀ x, x < 63 → g.1 x = f.1 x := fun x q => by rw [g3 x (by omega), sA_o (by omega)]
  have ff : ∀ x, x < 59 → f.1 x = e.1 x := fun x q => by rw [f3 x (by omega), sA_o (by omega)]
  have ee : ∀ x, x < 54 → e.1 x = c.1 x := fun x q => by rw [e3 x (by omega), sA_o (by omega)]
  have cc : ∀ x, x < 22 → c.1 x = b.1 x := fun x q => by rw [c3 x (by omega), sA_o (by omega)]
  have bb : ∀ x, x < 16 → b.1 x = a.1 x := fun x q => by rw [b3 x (by omega), sA_o (by omega)]
  have ss : ∀ x, x < 13 → a.1 x = s.1 x := fun x q => by rw [a4 x (by omega), sA_o (by omega)]
  have k54 : ∀ x, x < 59 → x ≠ 0 → k.1 x = e.1 x := fun x q q0 => by rw [kk x q0 (by omega), jj x (by omega), ii x (by omega), hh x (by omega), gg x (by omega), ff x q]
  have k22 : ∀ x, x < 54 → x ≠ 0 → k.1 x = c.1 x := fun x q q0 => by rw [k54 x (by omega) q0, ee x q]
  have k16 : ∀ x, x < 22 → x ≠ 0 → k.1 x = b.1 x := fun x q q0 => by rw [k22 x (by omega) q0, cc x q]
  have k13 : ∀ x, x < 16 → x ≠ 0 → k.1 x = a.1 x := fun x q q0 => by rw [k16 x (by omega) q0, bb x q]
  refine ⟨k, ?_, ⟨⟨⟨?_, ?_, ?_, ?_, fun r hr => ?_, fun t ht => absurd ht (Nat.not_lt_zero _)⟩, ⟨?_, ?_, ?_, fun p hp => absurd hp (Nat.not_lt_zero _), fun t ht => absurd ht (Nat.not_lt_zero _)⟩, ?_⟩, ⟨?_, 0, by omega, ?_, fun i v hv => by cases hv⟩, ⟨0, ⟨by omega, ?_, ?_⟩, ?_, fun i hi => ⟨fun _ => bt_0 i, fun s' v hv => by cases hv⟩⟩, ?_, fun i hi => absurd hi (Nat.not_lt_zero _), ?_, fun p _ hb => ?_, ?_, fun i hi => absurd hi (Nat.not_lt_zero _), ?_, fun i hi => absurd hi (Nat.not_lt_zero _), ?_⟩⟩
  · exact q_run a1 b1 c1 e1 f1 g1 h1 i1 j1 hk
  · rw [k13 13 (by omega) (by omega), a2.1]; rfl
  · rw [k13 13 (by omega) (by omega), a2.2.1]; rfl
  · rw [k13 13 (by omega) (by omega), a2.2.2.1]; rfl
  · rw [k13 13 (by omega) (by omega), a2.2.2.2]; rfl
  · rw [k13 15 (by omega) (by omega)]
    rcases (show r = 0 ∨ r = 1 ∨ r = 2 ∨ r = 3 by omega) with z | z | z | z <;> subst z
    · rw [a3.1]; rfl
    · rw [a3.2.1]; rfl
    · rw [a3.2.2.1]; rfl
    · rw [a3.2.2.2]; rfl
  · rw [k16 16 (by omega) (by omega), b2.2.1]; rfl
  · rw [k16 16 (by omega) (by omega), b2.2.2]; rfl
  · rw [k16 16 (by omega) (by omega), b2.1]; rfl
  · rw [hk, sI_k]; rfl
  · rw [k22 22 (by omega) (by omega), c2.2]; rfl
  · rw [k22 22 (by omega) (by omega), c2.1]; rfl
  · rw [k13 6 (by omega) (by omega), ss 6 (by omega)]; exact h66
  · rw [k13 6 (by omega) (by omega), ss 6 (by omega)]; exact h67
  · rw [k54 54 (by omega) (by omega), e2]; rfl
  · rw [kk 67 (by omega) (by omega), jj 67 (by omega), ii 67 (by omega), h2]; rfl
  · rw [kk 69 (by omega) (by omega), jj 69 (by omega), i2]; rfl
  · exact absurd hb (by show ¬ bt 0 p = true; rw [bt_0]; simp)
  · rw [kk 74 (by omega) (by omega), j2]; rfl
  · rw [hk, sI_n (by omega), sI_n (by omega), sI_k]; rfl
  · rw [hk, sI_n (by omega), sI_k]; rfl
theorem c_init {N : Nat} {σ : g_St} (hN : 300 < N) : ∃ τ, m_X10_init_0 N σ = some τ ∧ CC (dSx dz S0) τ := by
  obtain ⟨s, s1, s2, s3, s4, s5⟩ := c_rbegin (N := N) (σ := j6 (j5 (j4 (j3 σ)))) hN
  obtain ⟨τ, t1, t2⟩ := iR_ok (s := s) (by rw [s4 6 (by omega)]; unfold j6 j5; simp (disch := omega) only [sI_o, sI_k, sI_n, sA_o, sA_s, sI_2, sA_2, sL_1, sL_o]) (by rw [s4 6 (by omega)]; unfold j6 j5; simp (disch := omega) only [sI_o, sI_k, sI_n, sA_o, sA_s, sI_2, sA_2, sL_1, sL_o])
  refine ⟨τ, ?_, t2⟩
  rw [i_eq, i_eq2, s1, Option.bind_some, Option.bind_some, t1]
theorem r_init {N : Nat} {σ : g_St} (hN : 300 < N) : ∃ τ, m_X11_init_77 N (g_sA σ 77 (fun _ => 0)) = some τ ∧ RR (dSx dz S0) τ ∧ keepC σ τ := by
  obtain ⟨b, hb⟩ : ∃ b, b = g_sI (g_sA (g_sA (g_sA (g_sA (g_sA (g_sA (g_sA (g_sA (g_sA (g_sA (g_sA (g_sA (g_sA (g_sA (g_sA (g_sA σ 77 (fun _ => 0)) 78 (fun _ => 0)) 79 (fun _ => 0)) 80 (fun _ => 0)) 81 (fun _ => 0)) 82 (fun _ => 0)) 83 (fun _ => 0)) 84 (fun _ => 0)) 85 (fun _ => 0)) 86 (fun _ => 0)) 87 (fun _ => 0)) 88 (fun _ => 0)) 89 (fun _ => 0)) 90 (fun _ => 0)) 91 (fun _ => 0)) 92 (fun _ => 0)) 77 6 (-1) := ⟨_, rfl⟩
  obtain ⟨p, p1, p2, p3, p4⟩ := r_plain (N := N) (σ := b) hN
  obtain ⟨τ, t1, t2, t3, t4⟩ := r_starts (d := dz) (N := N) (σ := p) hN S0_ok p2 (by rw [p3 77 (by omega), hb]; simp (disch := omega) only [sI_o, sI_k, sI_n, sA_o, sA_s, sI_2, sA_2, sL_1, sL_o]; rfl) (by rw [p3 77 (by omega), hb]; simp (disch := omega) only [sI_o, sI_k, sI_n, sA_o, sA_s, sI_2, sA_2, sL_1, sL_o]) (by rw [p3 77 (by omega), hb]; simp (disch := omega) only [sI_o, sI_k, sI_n, sA_o, sA_s, sI_2, sA_2, sL_1, sL_o])
  refine ⟨τ, ?_, t2, fun c hc => ⟨by rw [(t4 c hc).1, p3 c (by omega), hb]; simp (disch := omega) only [sI_o, sI_k, sI_n, sA_o, sA_s, sI_2, sA_2, sL_1, sL_o], by rw [(t4 c hc).2, p4, hb]; rfl⟩⟩
  unfold m_X11_init_77 g_lt
  dsimp only
  rw [← hb, p1, Option.bind_some, t1, Option.bind_some]
theorem all_sp (N : Nat) (hN : 117700 < N) : AllSp N := ⟨sp_feed, sp_town N (by omega), sp_fault, sp_told N (by omega), sp_person N (by omega), sp_ticket, sp_right, sp_draw N (by omega), sp_lots N (by omega), sp_sell, sp_pawn, sp_price, sp_undo N (by omega), sp_odds N (by omega), sp_never N (by omega), sp_buy N (by omega), sp_evens N (by omega), sp_couples N hN, sp_see, sp_belief N (by omega), sp_likeliest N (by omega), sp_candles, sp_rows N (by omega), sp_sure N (by omega), sp_write, sp_judge N (by omega), sp_ageBy N (by omega), sp_tear N (by omega), sp_seed, sp_keep N (by omega), sp_goBack N (by omega)⟩
theorem law_all (xs : Nat → Int32) (L : Nat) (hL : L ≤ 2560) (N : Nat) (hN : 117700 < N) : m_law xs L N = some () := by
  obtain ⟨a, a1, a2⟩ := c_init (N := N) (σ := g_sA (fun _ _ => 0, fun _ _ => 0) 0 (fun _ => 0)) (by omega)
  obtain ⟨b, b1, b2, b3⟩ := r_init (N := N) (σ := a) (by omega)
  have hRel : Rel (dSx dz S0) b := ⟨dSx_ok (by show 0 < 2 ^ 31; decide) S0_ok, CC_keep a2 b3, b2⟩
  unfold m_law g_lt
  dsimp only
  rw [a1, Option.bind_some, b1, Option.bind_some]
  exact law_loop N (all_sp N hN) xs L hL 512 N 0 (dSx dz S0) b (by omega) (by omega) (by omega) hRel
theorem law_true0 (xs : Nat → Int32) (L : Nat) (hL : L ≤ 2560) : ∃ N, m_law xs L N = some () := ⟨117701, law_all xs L hL 117701 (by omega)⟩
