/-! one draw of the class; the ring -/
def endsB (w : Tw) (S D t : Nat) : Bool := decide (D + 1 = tY w) || decide (leftS (tR w) S t = 0)
theorem c_without {σ : g_St} {w : Tw} {S t : Nat} (hw : TwOK w) (hT : CT w σ) (hS : S < 256) (ht : t < tK w) : m_X7_drumWithout (nI S) (nI t) σ = some (nI (leftS (tR w) S t), σ) := by
  have hK : tK w ≤ 8 := hw.2.1
  have hR := hw.2.2.2.2.1
  unfold m_X7_drumWithout
  rw [hT.2.2.2.1]
  by_cases h : tR w = 1
  · rw [if_neg (show ¬ nI (tR w) = 0 by rw [h]; decide)]
    unfold leftS; rw [if_pos h]
  · rw [if_pos (show nI (tR w) = 0 by rw [show tR w = 0 by omega]; rfl), u_clr _ hS t (by omega)]
    unfold leftS; rw [if_neg h]
theorem c_ends {σ : g_St} {w : Tw} {S D t : Nat} (hw : TwOK w) (hT : CT w σ) (hS : S < 256) (ht : t < tK w) (hD : D < tY w) : m_X7_endsYear (nI S) (nI D) (nI t) σ = some (if endsB w S D t then 1 else 0, σ) := by
  have hY := hw.2.2.2.1
  have hK : tK w ≤ 8 := hw.2.1
  have hle := leftS_le (R := tR w) hS (show t < 8 by omega)
  unfold m_X7_endsYear m_X7_endsYear_19
  rw [hT.2.2.1, nI_1]
  by_cases h1 : D + 1 = tY w
  · rw [if_pos (a_le _ (by omega) (by omega)), if_pos (by simp [endsB, h1])]
  · rw [if_neg (a_nle _ (by omega) (by omega)), c_without hw hT hS ht, Option.bind_some]
    dsimp only
    by_cases h2 : leftS (tR w) S t = 0
    · rw [if_pos (show nI (leftS (tR w) S t) = 0 by rw [h2]; rfl), if_pos (by simp [endsB, h2])]
    · rw [if_neg (show ¬ nI (leftS (tR w) S t) = 0 from a_ne 0 h2 (by omega) (by omega)), if_neg (by simp [endsB, h1, h2])]
theorem c_all {σ : g_St} {w : Tw} (hw : TwOK w) (hT : CT w σ) : m_X7_everyTicket σ = some (nI (2 ^ tK w - 1), σ) := by
  have hK : tK w ≤ 8 := hw.2.1
  unfold m_X7_everyTicket
  rw [hT.2.1, u_all _ (by omega)]
theorem c_drumA {σ : g_St} {w : Tw} {S D t : Nat} (hw : TwOK w) (hT : CT w σ) (hS : S < 256) (ht : t < tK w) (hD : D < tY w) : m_X7_drumAfter (nI S) (nI D) (nI t) σ = some (nI (if endsB w S D t then 2 ^ tK w - 1 else leftS (tR w) S t), σ) := by
  unfold m_X7_drumAfter
  rw [c_ends hw hT hS ht hD, Option.bind_some]
  dsimp only
  by_cases he : endsB w S D t = true
  · rw [if_pos he, if_neg n10, c_all hw hT, Option.bind_some, if_pos he]
  · rw [if_neg he, if_pos rfl, c_without hw hT hS ht, Option.bind_some, if_neg he]
theorem c_drawsA {σ : g_St} {w : Tw} {S D t : Nat} (hw : TwOK w) (hT : CT w σ) (hS : S < 256) (ht : t < tK w) (hD : D < tY w) : m_X7_drawsAfter (nI S) (nI D) (nI t) σ = some (nI (if endsB w S D t then 0 else D + 1), σ) := by
  unfold m_X7_drawsAfter
  rw [c_ends hw hT hS ht hD, Option.bind_some]
  dsimp only
  by_cases he : endsB w S D t = true
  · rw [if_pos he, if_neg n10, if_pos he]; rfl
  · rw [if_neg he, if_pos rfl, if_neg he, nI_1]
theorem older_nI {a : Nat} (h : a ≤ 999) : (if nI a + (1 : Int32) < (999 : Int32) then nI a + (1 : Int32) else (999 : Int32)) = nI (aged a) := by
  rw [nI_1]
  unfold aged
  by_cases q : a + 1 < 999
  · rw [if_pos (show nI (a + 1) < (999 : Int32) from a_lt 999 q (by omega)), if_pos (by omega)]
  · rw [if_neg (show ¬ nI (a + 1) < (999 : Int32) from a_nlt 999 (by omega) (by omega))]
    by_cases q2 : a < 999
    · rw [if_pos q2, show a + 1 = 999 by omega]; rfl
    · rw [if_neg q2, show a = 999 by omega]; rfl
theorem c_whoO {σ : g_St} {w : Tw} {v : Nw} {t : Nat} (hw : TwOK w) (hv : NwO w v) (h : CN w v σ) (ht : t < tK w) : m_X4_whoAges (nI t) σ = some (nI (who v t), σ) := by
  have hP : tP w ≤ 6 := hw.1
  have hK : tK w ≤ 8 := hw.2.1
  obtain ⟨b1, b2, b3⟩ := h.2.2.2.2 t ht
  obtain ⟨a1, a2, a3⟩ := hv.2.2.2.2 t ht
  have q2 : nI t < (8 : Int32) := a_lt 8 (by omega) (by omega)
  have hi : g_in (nI t) 8 := a_in (by omega) (by omega)
  unfold m_X4_whoAges
  rw [if_neg (nI_pos (by omega)), if_pos q2, if_pos hi, nI_clamp (by omega), b2, b1]
  unfold who
  cases e : nL v t with
  | none => rw [show plv none = -1 from rfl, if_pos rfl, if_pos hi]; rfl
  | some q =>
    have := a2 q e
    rw [show plv (some q) = nI q from rfl, if_neg (by rw [u_m1 (by omega)]; exact id), if_pos hi]
    rfl
theorem c_celebrate {σ : g_St} {w : Tw} {v : Nw} {p : Nat} (hw : TwOK w) (h : CN w v σ) (hp : p < tP w) (ha : nA v p ≤ 999) (hc : nC v p ≤ 9999) : m_X4_celebrate (nI p) σ = some (g_sI (g_sI σ 17 p (nI (aged (nA v p)))) 18 p (nI (mn9 (nC v p + (aged (nA v p) / 10 + 1))))) := by
  have hP : tP w ≤ 6 := hw.1
  have hag := aged_le ha
  have hi : g_in (nI p) 6 := a_in (by omega) (by omega)
  have q2 : nI p < (6 : Int32) := a_lt 6 (by omega) (by omega)
  unfold m_X4_celebrate m_X10_older g_lt
  rw [if_neg (nI_pos (by omega)), if_pos q2, if_pos hi, nI_clamp (by omega), (h.2.2.2.1 p hp).1, older_nI ha, Option.bind_some]
  simp only [if_pos hi]
  simp (disch := omega) only [sI_o, sI_k, sI_n, sA_o, sA_s, sI_2, sA_2, sL_1, sL_o]
  rw [(h.2.2.2.1 p hp).2, div10 (by omega), nI_add, nI_1, Nat.add_assoc]
  have e9 : (if nI (nC v p + (aged (nA v p) / 10 + 1)) < (9999 : Int32) then nI (nC v p + (aged (nA v p) / 10 + 1)) else (9999 : Int32)) = nI (mn9 (nC v p + (aged (nA v p) / 10 + 1))) := by
    unfold mn9
    by_cases q : nC v p + (aged (nA v p) / 10 + 1) < 9999
    · rw [if_pos q, if_pos (show nI (nC v p + (aged (nA v p) / 10 + 1)) < (9999 : Int32) from a_lt 9999 q (by omega))]
    · rw [if_neg q, if_neg (show ¬ nI (nC v p + (aged (nA v p) / 10 + 1)) < (9999 : Int32) from a_nlt 9999 (by omega) (by omega))]; rfl
  rw [e9]
theorem c_pass {σ : g_St} {w : Tw} {S D Y t : Nat} (hw : TwOK w) (hT : CT w σ) (h5 : σ.1 16 5 = nI S) (h6 : σ.1 16 6 = nI Y) (h7 : σ.1 16 7 = nI D) (hS : S < 256) (ht : t < tK w) (hD : D < tY w) : ∃ τ, m_X4_passDraw (nI t) σ = some τ ∧ τ.1 16 5 = nI (if endsB w S D t then 2 ^ tK w - 1 else leftS (tR w) S t) ∧ τ.1 16 6 = nI (Y + (if endsB w S D t then 1 else 0)) ∧ τ.1 16 7 = nI (if endsB w S D t then 0 else D + 1) ∧ (∀ c, c ≠ 16 → τ.1 c = σ.1 c) ∧ τ.2 = σ.2 := by
  have e28 : ∀ x : g_St, CT w x → x.1 16 7 = nI D → m_X4_passDraw_28 (nI t) (nI S) x = some (g_sI (g_sI x 16 5 (nI (if endsB w S D t then 2 ^ tK w - 1 else leftS (tR w) S t))) 16 7 (nI (if endsB w S D t then 0 else D + 1))) := by
    intro x hx x7
    unfold m_X4_passDraw_28 g_lt
    rw [x7, c_drumA hw hx hS ht hD, Option.bind_some]
    dsimp only
    rw [sI_n (by omega), x7, c_drawsA hw (CT_k hx (fun c _ _ => sI_o (by omega))) hS ht hD, Option.bind_some]
  unfold m_X4_passDraw g_lt
  rw [h5, h7]
  dsimp only
  rw [c_ends hw hT hS ht hD, Option.bind_some]
  dsimp only
  by_cases he : endsB w S D t = true
  · rw [if_pos he, if_neg n10, h6, nI_1, e28 _ (CT_k hT (fun c _ _ => sI_o (by omega))) (by simp (disch := omega) only [sI_o, sI_k, sI_n, sA_o, sA_s, sI_2, sA_2, sL_1, sL_o]; exact h7)]
    refine ⟨_, rfl, by simp (disch := omega) only [sI_o, sI_k, sI_n, sA_o, sA_s, sI_2, sA_2, sL_1, sL_o], by simp (disch := omega) only [sI_o, sI_k, sI_n, sA_o, sA_s, sI_2, sA_2, sL_1, sL_o]; rw [if_pos he], by simp (disch := omega) only [sI_o, sI_k, sI_n, sA_o, sA_s, sI_2, sA_2, sL_1, sL_o], fun c hc => by simp (disch := omega) only [sI_o, sI_k, sI_n, sA_o, sA_s, sI_2, sA_2, sL_1, sL_o], rfl⟩
  · rw [if_neg he, if_pos rfl, e28 _ hT h7]
    refine ⟨_, rfl, by simp (disch := omega) only [sI_o, sI_k, sI_n, sA_o, sA_s, sI_2, sA_2, sL_1, sL_o], by simp (disch := omega) only [sI_o, sI_k, sI_n, sA_o, sA_s, sI_2, sA_2, sL_1, sL_o]; rw [if_neg he]; exact h6, by simp (disch := omega) only [sI_o, sI_k, sI_n, sA_o, sA_s, sI_2, sA_2, sL_1, sL_o], fun c hc => by simp (disch := omega) only [sI_o, sI_k, sI_n, sA_o, sA_s, sI_2, sA_2, sL_1, sL_o], rfl⟩
theorem c_drawT {σ : g_St} {w : Tw} {v : Nw} {t : Nat} (hw : TwOK w) (hv : NwO w v) (hT : CT w σ) (h : CN w v σ) (ht : t < tK w) : ∃ τ, ((m_X4_whoAges (nI t) σ).bind fun q2 => ((m_X4_celebrate q2.1 q2.2).bind fun σ3 => ((m_X4_passDraw (nI t) σ3).bind fun σ4 => some (q2.1, σ4)))) = some (nI (who v t), τ) ∧ CN w (drawn w (tR w) v t) τ ∧ (∀ c, (c < 16 ∨ 22 ≤ c) → τ.1 c = σ.1 c) ∧ τ.2 = σ.2 := by
  have hK : tK w ≤ 8 := hw.2.1
  have hpw := NwO_who hv ht
  have hS : nS v < 256 := Nat.lt_of_lt_of_le hv.2.1 (pow8 hK)
  have ha := hv.2.2.2.1 (who v t) hpw
  rw [c_whoO hw hv h ht, Option.bind_some]
  dsimp only
  rw [c_celebrate hw h hpw ha.1 ha.2, Option.bind_some]
  obtain ⟨g1, g2, g3, g4, g5⟩ := h
  obtain ⟨τ, t1, t2, t3, t4, t5, t6⟩ := c_pass (σ := g_sI (g_sI σ 17 (who v t) (nI (aged (nA v (who v t))))) 18 (who v t) (nI (mn9 (nC v (who v t) + (aged (nA v (who v t)) / 10 + 1))))) (S := nS v) (D := nD v) (Y := nY v) hw (CT_k hT (fun c _ _ => by simp (disch := omega) only [sI_o, sI_k, sI_n, sA_o, sA_s, sI_2, sA_2, sL_1, sL_o])) (by simp (disch := omega) only [sI_o, sI_k, sI_n, sA_o, sA_s, sI_2, sA_2, sL_1, sL_o]; exact g3) (by simp (disch := omega) only [sI_o, sI_k, sI_n, sA_o, sA_s, sI_2, sA_2, sL_1, sL_o]; exact g1) (by simp (disch := omega) only [sI_o, sI_k, sI_n, sA_o, sA_s, sI_2, sA_2, sL_1, sL_o]; exact g2) hS ht hv.1
  rw [t1, Option.bind_some]
  refine ⟨τ, rfl, ⟨t3, t4, t2, fun p hp => ⟨?_, ?_⟩, fun r hr => ?_⟩, fun c hc => by rw [t5 c (by omega)]; simp (disch := omega) only [sI_o, sI_k, sI_n, sA_o, sA_s, sI_2, sA_2, sL_1, sL_o], t6⟩
  · show τ.1 17 p = nI (va_up (nA v) (who v t) (aged (nA v (who v t))) p)
    rw [t5 17 (by omega), sI_o (by omega)]
    by_cases e : p = who v t
    · subst e; rw [sI_k, g_up_s]
    · rw [sI_n e, g_up_n _ _ e]; exact (g4 p hp).1
  · show τ.1 18 p = nI (va_up (nC v) (who v t) (mn9 (nC v (who v t) + (aged (nA v (who v t)) / 10 + 1))) p)
    rw [t5 18 (by omega)]
    by_cases e : p = who v t
    · subst e; rw [sI_k, g_up_s]
    · rw [sI_n e, g_up_n _ _ e, sI_o (by omega)]; exact (g4 p hp).2
  · show τ.1 19 r = _ ∧ τ.1 20 r = _ ∧ τ.1 21 r = _
    rw [t5 19 (by omega), t5 20 (by omega), t5 21 (by omega)]
    simp (disch := omega) only [sI_o, sI_k, sI_n, sA_o, sA_s, sI_2, sA_2, sL_1, sL_o]
    exact g5 r hr
theorem c_pack {σ : g_St} {w : Tw} {v : Nw} {row : Nat} (hw : TwOK w) (h : CN w v σ) (hr : 22 ≤ row) : ∃ τ, m_X4_packInto_R row σ = some τ ∧ PN w v (τ.1 row) ∧ (∀ c, c ≠ row → τ.1 c = σ.1 c) ∧ τ.2 = σ.2 := by
  have hP : tP w ≤ 6 := hw.1
  have hK : tK w ≤ 8 := hw.2.1
  obtain ⟨g1, g2, g3, g4, g5⟩ := h
  unfold m_X4_packInto_R g_lt
  rw [if_pos (show (39 : Int32) ≤ 39 by decide)]
  refine ⟨_, rfl, ⟨?_, ?_, ?_, fun p hp => ⟨?_, ?_⟩, fun t ht => ⟨?_, ?_, ?_⟩⟩, fun c hc => by simp (disch := omega) only [sI_o, sI_k, sI_n, sA_o, sA_s, sI_2, sA_2, sL_1, sL_o], rfl⟩
  · simp (disch := omega) only [sI_o, sI_k, sI_n, sA_o, sA_s, pk_cpy_in, pk_cpy_out]; exact g1
  · simp (disch := omega) only [sI_o, sI_k, sI_n, sA_o, sA_s, pk_cpy_in, pk_cpy_out]; exact g2
  · simp (disch := omega) only [sI_o, sI_k, sI_n, sA_o, sA_s, pk_cpy_in, pk_cpy_out]; exact g3
  · simp (disch := omega) only [sI_o, sI_k, sI_n, sA_o, sA_s, pk_cpy_in, pk_cpy_out]; rw [show 0 + (3 + p - 3) = p by omega]; exact (g4 p hp).1
  · simp (disch := omega) only [sI_o, sI_k, sI_n, sA_o, sA_s, pk_cpy_in, pk_cpy_out]; rw [show 0 + (9 + p - 9) = p by omega]; exact (g4 p hp).2
  · simp (disch := omega) only [sI_o, sI_k, sI_n, sA_o, sA_s, pk_cpy_in, pk_cpy_out]; rw [show 0 + (15 + t - 15) = t by omega]; exact (g5 t ht).1
  · simp (disch := omega) only [sI_o, sI_k, sI_n, sA_o, sA_s, pk_cpy_in, pk_cpy_out]; rw [show 0 + (23 + t - 23) = t by omega]; exact (g5 t ht).2.1
  · simp (disch := omega) only [sI_o, sI_k, sI_n, sA_o, sA_s, pk_cpy_in, pk_cpy_out]; rw [show 0 + (31 + t - 31) = t by omega]; exact (g5 t ht).2.2
theorem c_unpack {σ : g_St} {w : Tw} {v : Nw} {row : Nat} (hw : TwOK w) (h : PN w v (σ.1 row)) (hr : 22 ≤ row) : ∃ τ, m_X4_unpackFrom_R row σ = some τ ∧ CN w v τ ∧ (∀ c, (c < 16 ∨ 22 ≤ c) → τ.1 c = σ.1 c) ∧ τ.2 = σ.2 := by
  have hP : tP w ≤ 6 := hw.1
  have hK : tK w ≤ 8 := hw.2.1
  obtain ⟨g1, g2, g3, g4, g5⟩ := h
  unfold m_X4_unpackFrom_R g_lt
  rw [if_pos (show (39 : Int32) ≤ 39 by decide)]
  refine ⟨_, rfl, ⟨?_, ?_, ?_, fun p hp => ⟨?_, ?_⟩, fun t ht => ⟨?_, ?_, ?_⟩⟩, fun c hc => by simp (disch := omega) only [sI_o, sI_k, sI_n, sA_o, sA_s, sI_2, sA_2, sL_1, sL_o], rfl⟩
  · simp (disch := omega) only [sI_o, sI_k, sI_n, sA_o, sA_s, pk_cpy_in, pk_cpy_out]; exact g1
  · simp (disch := omega) only [sI_o, sI_k, sI_n, sA_o, sA_s, pk_cpy_in, pk_cpy_out]; exact g2
  · simp (disch := omega) only [sI_o, sI_k, sI_n, sA_o, sA_s, pk_cpy_in, pk_cpy_out]; exact g3
  · simp (disch := omega) only [sI_o, sI_k, sI_n, sA_o, sA_s, pk_cpy_in, pk_cpy_out]; rw [show 3 + (p - 0) = 3 + p by omega]; exact (g4 p hp).1
  · simp (disch := omega) only [sI_o, sI_k, sI_n, sA_o, sA_s, pk_cpy_in, pk_cpy_out]; rw [show 9 + (p - 0) = 9 + p by omega]; exact (g4 p hp).2
  · simp (disch := omega) only [sI_o, sI_k, sI_n, sA_o, sA_s, pk_cpy_in, pk_cpy_out]; rw [show 15 + (t - 0) = 15 + t by omega]; exact (g5 t ht).1
  · simp (disch := omega) only [sI_o, sI_k, sI_n, sA_o, sA_s, pk_cpy_in, pk_cpy_out]; rw [show 23 + (t - 0) = 23 + t by omega]; exact (g5 t ht).2.1
  · simp (disch := omega) only [sI_o, sI_k, sI_n, sA_o, sA_s, pk_cpy_in, pk_cpy_out]; rw [show 31 + (t - 0) = 31 + t by omega]; exact (g5 t ht).2.2
