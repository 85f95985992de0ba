/-! the reference's odds -/
theorem nI_and (a b : Nat) : nI a &&& nI b = nI (a &&& b) := by
  apply Int32.toBitVec_inj.mp
  show BitVec.ofNat 32 a &&& BitVec.ofNat 32 b = BitVec.ofNat 32 (a &&& b)
  exact BitVec.ofNat_and.symm
theorem nI_or (a b : Nat) : nI a ||| nI b = nI (a ||| b) := by
  apply Int32.toBitVec_inj.mp
  show BitVec.ofNat 32 a ||| BitVec.ofNat 32 b = BitVec.ofNat 32 (a ||| b)
  exact BitVec.ofNat_or.symm
theorem t255 : ∀ i, i < 8 → (255 : Nat).testBit i = true := by decide
theorem nI_andn {a x : Nat} (ha : a < 256) : nI a &&& (nI x ^^^ (-1 : Int32)) = nI (a &&& (255 ^^^ x)) := by
  apply Int32.toBitVec_inj.mp
  show BitVec.ofNat 32 a &&& (BitVec.ofNat 32 x ^^^ (-1 : Int32).toBitVec) = BitVec.ofNat 32 (a &&& (255 ^^^ x))
  have e : (-1 : Int32).toBitVec = BitVec.allOnes 32 := by decide
  rw [e]
  apply BitVec.eq_of_getLsbD_eq
  intro i hi
  rw [BitVec.getLsbD_and, BitVec.getLsbD_xor, BitVec.getLsbD_ofNat, BitVec.getLsbD_ofNat, BitVec.getLsbD_ofNat, BitVec.getLsbD_allOnes, Nat.testBit_and, Nat.testBit_xor]
  by_cases h8 : i < 8
  · rw [t255 i h8]
    simp [hi, Bool.xor_comm]
  · have : a.testBit i = false := Nat.testBit_lt_two_pow (Nat.lt_of_lt_of_le ha (Nat.pow_le_pow_right (n := 2) (i := 8) (by omega) (by omega)))
    simp [this]
def dmF (D M x : Nat) : Nat := (D &&& M) &&& (255 ^^^ x)
theorem dmF_lt {D M x : Nat} (hD : D < 256) : dmF D M x < 256 := Nat.lt_of_le_of_lt (Nat.le_trans Nat.and_le_left Nat.and_le_left) hD
theorem and_lt {D M : Nat} (hD : D < 256) : D &&& M < 256 := Nat.lt_of_le_of_lt Nat.and_le_left hD
theorem part_i {a b c : Nat} (ha : a ≤ 1000000000) (hb : b ≤ 100) (h0 : 0 < c) (hc : c ≤ 100) : ((((1 : Int64) * (nI a).toInt64) * (nI b).toInt64) / (nI c).toInt64).toInt32 = nI (a * b / c) := by
  have : a * b ≤ 1000000000 * 100 := Nat.mul_le_mul ha hb
  rw [nI_l (by omega), nI_l (by omega), nI_l (by omega), show (1 : Int64) = lN 1 from rfl, lN_mul, Nat.one_mul, lN_mul, pk_lDiv (by omega) h0 (by omega), lN_i]
theorem sg_leF {F G : Nat → Nat} : ∀ k, (∀ u, u < k → F u ≤ G u) → sg k F ≤ sg k G
  | 0, _ => Nat.le_refl _
  | k + 1, h => by
    have := sg_leF k (fun u hu => h u (by omega))
    have := h k (by omega)
    rw [sg_s, sg_s]; omega
/-- a cell holds f on its 256 places -/
def h256 (σ : g_St) (c : Nat) (f : Nat → Nat) : Prop := ∀ x, x < 256 → σ.1 c x = nI (f x)
theorem b_B : (1000000000 : Int32) = nI 1000000000 := rfl
set_option maxRecDepth 4000 in
theorem r_ow3 {N D : Nat} {a b c : Int32} (hD : D < 256) {w : Nat → Nat} {K : Nat} : ∀ m x fu σ, x + m = 256 → m < fu → (∀ y, y < x → σ.1 84 y = nI (Qp w K D 0 y)) → ∃ τ, m_X11_oddsWithout_3 N fu a b c (nI D) (nI x) σ = m_X11_oddsWithout_40 N N a b c (nI D) 0 τ ∧ h256 τ 84 (Qp w K D 0) ∧ (∀ c, c ≠ 84 → τ.1 c = σ.1 c) ∧ τ.2 = σ.2 := by
  intro m
  induction m with
  | zero =>
    intro x fu σ hx hf h84
    obtain ⟨fu, rfl⟩ : ∃ f, fu = f + 1 := ⟨fu - 1, by omega⟩
    refine ⟨σ, ?_, fun y hy => h84 y (by omega), fun c _ => rfl, rfl⟩
    unfold m_X11_oddsWithout_3
    rw [if_pos (show (256 : Int32) ≤ nI x from a_le (a := 256) x (by omega) (by omega))]
  | succ m ih =>
    intro x fu σ hx hf h84
    obtain ⟨fu, rfl⟩ : ∃ f, fu = f + 1 := ⟨fu - 1, by omega⟩
    obtain ⟨τ, t1, t2, t3, t4⟩ := ih (x + 1) fu (g_sI σ 84 x (nI (Qp w K D 0 x))) (by omega) (by omega) (fun y hy => by
      by_cases e : y = x
      · subst e; rw [sI_k]
      · rw [sI_n e]; exact h84 y (by omega))
    refine ⟨τ, ?_, t2, fun c hc => by rw [t3 c hc]; simp (disch := omega) only [sI_o, sI_k, sI_n, sA_o, sA_s, sI_2, sA_2, sL_1, sL_o], t4⟩
    rw [← t1]
    conv => lhs; unfold m_X11_oddsWithout_3 m_X11_oddsWithout_30 g_lt
    rw [if_neg (show ¬ (256 : Int32) ≤ nI x from a_nle (a := 256) x (by omega) (by omega))]
    simp only [if_pos (a_in (show x < 256 by omega) (show x < 2 ^ 31 by omega)), nI_clamp (show x < 2 ^ 31 by omega), nI_1]
    by_cases e : x = D
    · rw [if_pos (by rw [e]), Qp_0, if_pos e, b_B]
    · rw [if_neg (a_ne D e (by omega) (by omega)), Qp_0, if_neg e]
      rfl
theorem r_ow49 {N : Nat} {a b c d e : Int32} {k40 : Int32 → Int32 → Int32 → Int32 → Int32 → g_St → Option (Int32 × g_St)} {f : Nat → Nat} : ∀ m x fu σ, x + m = 256 → m < fu → h256 σ 84 f → (∀ y, y < x → σ.1 85 y = nI (if y = 0 then f 0 else 0)) → ∃ τ, m_X11_oddsWithout_49 k40 N fu a b c d e (nI x) σ = m_X11_oddsWithout_88 k40 N N a b c d e 1 τ ∧ h256 τ 85 (fun y => if y = 0 then f 0 else 0) ∧ (∀ c, c ≠ 85 → τ.1 c = σ.1 c) ∧ τ.2 = σ.2 := by
  intro m
  induction m with
  | zero =>
    intro x fu σ hx hf h84 h85
    obtain ⟨fu, rfl⟩ : ∃ f, fu = f + 1 := ⟨fu - 1, by omega⟩
    refine ⟨σ, ?_, fun y hy => h85 y (by omega), fun c _ => rfl, rfl⟩
    unfold m_X11_oddsWithout_49
    rw [if_pos (show (256 : Int32) ≤ nI x from a_le (a := 256) x (by omega) (by omega))]
  | succ m ih =>
    intro x fu σ hx hf h84 h85
    obtain ⟨fu, rfl⟩ : ∃ f, fu = f + 1 := ⟨fu - 1, by omega⟩
    obtain ⟨τ, t1, t2, t3, t4⟩ := ih (x + 1) fu (g_sI σ 85 x (nI (if x = 0 then f 0 else 0))) (by omega) (by omega) (fun y hy => by simp (disch := omega) only [sI_o, sI_k, sI_n, sA_o, sA_s, sI_2, sA_2, sL_1, sL_o]; exact h84 y hy) (fun y hy => by
      by_cases q : y = x
      · subst q; rw [sI_k]
      · rw [sI_n q]; exact h85 y (by omega))
    refine ⟨τ, ?_, t2, fun c hc => by rw [t3 c hc]; simp (disch := omega) only [sI_o, sI_k, sI_n, sA_o, sA_s, sI_2, sA_2, sL_1, sL_o], t4⟩
    rw [← t1]
    conv => lhs; unfold m_X11_oddsWithout_49 m_X11_oddsWithout_78 g_lt
    rw [if_neg (show ¬ (256 : Int32) ≤ nI x from a_nle (a := 256) x (by omega) (by omega))]
    simp only [if_pos (a_in (show x < 256 by omega) (show x < 2 ^ 31 by omega)), nI_clamp (show x < 2 ^ 31 by omega), nI_1]
    by_cases q : x = 0
    · rw [if_pos (show nI x = 0 by rw [q]; rfl), if_pos q, h84 0 (by omega)]
    · rw [if_neg (nI_ne0 (by omega) (by omega)), if_neg q]
      rfl
theorem r_ow199 {N k : Nat} {a b c d : Int32} {k40 : Int32 → Int32 → Int32 → Int32 → Int32 → g_St → Option (Int32 × g_St)} {f : Nat → Nat} : ∀ m x fu σ, x + m = 256 → m < fu → h256 σ 85 f → (∀ y, y < x → σ.1 84 y = nI (f y)) → ∃ τ, m_X11_oddsWithout_199 k40 N fu a b c d (nI k) (nI x) σ = k40 a b c d (nI (k + 1)) τ ∧ h256 τ 84 f ∧ (∀ c, c ≠ 84 → τ.1 c = σ.1 c) ∧ τ.2 = σ.2 := by
  intro m
  induction m with
  | zero =>
    intro x fu σ hx hf h85 h84
    obtain ⟨fu, rfl⟩ : ∃ f, fu = f + 1 := ⟨fu - 1, by omega⟩
    refine ⟨σ, ?_, fun y hy => h84 y (by omega), fun c _ => rfl, rfl⟩
    unfold m_X11_oddsWithout_199 g_lt
    rw [if_pos (show (256 : Int32) ≤ nI x from a_le (a := 256) x (by omega) (by omega)), nI_1]
  | succ m ih =>
    intro x fu σ hx hf h85 h84
    obtain ⟨fu, rfl⟩ : ∃ f, fu = f + 1 := ⟨fu - 1, by omega⟩
    obtain ⟨τ, t1, t2, t3, t4⟩ := ih (x + 1) fu (g_sI σ 84 x (nI (f x))) (by omega) (by omega) (fun y hy => by simp (disch := omega) only [sI_o, sI_k, sI_n, sA_o, sA_s, sI_2, sA_2, sL_1, sL_o]; exact h85 y hy) (fun y hy => by
      by_cases q : y = x
      · subst q; rw [sI_k]
      · rw [sI_n q]; exact h84 y (by omega))
    refine ⟨τ, ?_, t2, fun c hc => by rw [t3 c hc]; simp (disch := omega) only [sI_o, sI_k, sI_n, sA_o, sA_s, sI_2, sA_2, sL_1, sL_o], t4⟩
    rw [← t1]
    have i1 : g_in (nI x) 256 := a_in (by omega) (by omega)
    conv => lhs; unfold m_X11_oddsWithout_199 g_lt
    simp only [if_neg (show ¬ (256 : Int32) ≤ nI x from a_nle (a := 256) x (by omega) (by omega)), if_pos i1, nI_clamp (show x < 2 ^ 31 by omega), h85 x (by omega), nI_1]
theorem r_ow112 {w : Tw} {N s : Nat} {a b c d e : Int32} {k40 : Int32 → Int32 → Int32 → Int32 → Int32 → g_St → Option (Int32 × g_St)} {k88 : Int32 → Int32 → Int32 → Int32 → Int32 → Int32 → g_St → Option (Int32 × g_St)} {f : Nat → Nat} {M : Nat} (hM : M = 256) (hw : TwOK w) (h1 : 1 ≤ s) (hs : s < 2 ^ tK w) (hmass : sg M f ≤ 1000000000) : ∀ m t fu σ, t + m = tK w → m < fu → RT w (σ.1 79) → h256 σ 84 f → h256 σ 85 (Hs (tW w) (tK w) f (fun x => if x = 0 then f 0 else 0) s t) → ∃ τ, m_X11_oddsWithout_112 k40 k88 N fu a b c d e (nI s) (nI (wsm (tW w) s (tK w))) (nI t) σ = k88 a b c d e (nI (s + 1)) τ ∧ h256 τ 85 (Hs (tW w) (tK w) f (fun x => if x = 0 then f 0 else 0) (s + 1) 0) ∧ (∀ c, c ≠ 85 → τ.1 c = σ.1 c) ∧ τ.2 = σ.2 := by
  have hK := hw.2.1
  have hp := pow8 hK
  have hs256 : s < 256 := by omega
  have i1 : g_in (nI s) 256 := a_in (by omega) (by omega)
  have hfs : f s ≤ 1000000000 := Nat.le_trans (sg_mem M (show s < M by omega)) hmass
  intro m
  induction m with
  | zero =>
    intro t fu σ ht hf hT h84 h85
    obtain ⟨fu, rfl⟩ : ∃ f, fu = f + 1 := ⟨fu - 1, by omega⟩
    refine ⟨σ, ?_, fun y hy => ?_, fun c _ => rfl, rfl⟩
    · unfold m_X11_oddsWithout_112 m_X11_oddsWithout_190 g_lt
      rw [hT.2.1, if_pos (a_le t (by omega) (by omega)), nI_1]
    · rw [h85 y hy, show t = tK w by omega, H_next]
  | succ m ih =>
    intro t fu σ ht hf hT h84 h85
    obtain ⟨fu, rfl⟩ : ∃ f, fu = f + 1 := ⟨fu - 1, by omega⟩
    have hw1 := hw.2.2.2.2.2.2.1 t (by omega)
    by_cases h0 : f s = 0
    · refine ⟨σ, ?_, fun y hy => ?_, fun c _ => rfl, rfl⟩
      · unfold m_X11_oddsWithout_112 m_X11_oddsWithout_190 g_lt
        rw [hT.2.1, if_neg (a_nle (a := tK w) t (by omega) (by omega)), if_pos i1, nI_clamp (by omega), h84 s hs256, h0, if_pos (show nI 0 ≤ (0 : Int32) by decide), nI_1]
      · rw [h85 y hy, H_zero h0]
    · have q0 : ¬ nI (f s) ≤ (0 : Int32) := nI_nle (by omega) (by omega)
      by_cases hb : bt s t = true
      · obtain ⟨b1, b2, b3⟩ := bx2 s hs256 t (by omega) hb
        have hW := wsm_ge (w := tW w) hb (tK w) (by omega)
        have hW2 := wsm_le (w := tW w) (S := s) (b := 9) (tK w) (fun t ht => (hw.2.2.2.2.2.2.1 t ht).2)
        have i2 : g_in (nI (cl s t)) 256 := a_in (by omega) (by omega)
        have hH := H_le (w := tW w) (f := f) hM hK h1 hs256 (show t + 1 ≤ tK w by omega) (show cl s t < 256 by omega) hmass
        have hst := H_step (w := tW w) (f := f) (base := fun x => if x = 0 then f 0 else 0) hK (show t < tK w by omega) (show cl s t < 256 by omega) hs256
        rw [if_pos ⟨hb, rfl⟩] at hst
        obtain ⟨τ, t1, t2, t3, t4⟩ := ih (t + 1) fu (g_sI σ 85 (cl s t) (nI (Hs (tW w) (tK w) f (fun x => if x = 0 then f 0 else 0) s t (cl s t) + f s * tW w t / wsm (tW w) s (tK w)))) (by omega) (by omega) (by simp (disch := omega) only [sI_o, sI_k, sI_n, sA_o, sA_s, sI_2, sA_2, sL_1, sL_o]; exact hT) (fun y hy => by simp (disch := omega) only [sI_o, sI_k, sI_n, sA_o, sA_s, sI_2, sA_2, sL_1, sL_o]; exact h84 y hy) (fun y hy => by
          by_cases q : y = cl s t
          · subst q; rw [sI_k, hst]
          · rw [sI_n q, h85 y hy, H_step hK (by omega) hy hs256, if_neg (fun z => q z.2), Nat.add_zero])
        refine ⟨τ, ?_, t2, fun c hc => by rw [t3 c hc]; simp (disch := omega) only [sI_o, sI_k, sI_n, sA_o, sA_s, sI_2, sA_2, sL_1, sL_o], t4⟩
        rw [← t1]
        conv => lhs; unfold m_X11_oddsWithout_112 m_X11_oddsWithout_184 g_lt
        dsimp only
        rw [hT.2.1, if_neg (a_nle (a := tK w) t (by omega) (by omega)), if_pos i1, nI_clamp (show s < 2 ^ 31 by omega), h84 s hs256, if_neg q0, bit1 hs256 (by omega) hb, if_pos rfl, u_clr s hs256 t (by omega), if_pos i2, if_pos i1, r_w1 (by omega) (hT.2.2.2.2.2 t (by omega)), Option.bind_some]
        dsimp only
        rw [if_neg (g_ne (by omega) (by omega)), if_pos i2, nI_clamp (show cl s t < 2 ^ 31 by omega), h85 _ (by omega), part_i hfs (by omega) (by omega) (by omega), nI_add, nI_1]
      · obtain ⟨τ, t1, t2, t3, t4⟩ := ih (t + 1) fu σ (by omega) (by omega) hT h84 (fun y hy => by rw [h85 y hy, H_step hK (by omega) hy hs256, if_neg (fun z => hb z.1), Nat.add_zero])
        refine ⟨τ, ?_, t2, t3, t4⟩
        rw [← t1]
        conv => lhs; unfold m_X11_oddsWithout_112 m_X11_oddsWithout_184 g_lt
        rw [hT.2.1, if_neg (a_nle (a := tK w) t (by omega) (by omega)), if_pos i1, nI_clamp (show s < 2 ^ 31 by omega), h84 s hs256, if_neg q0, bit0 hs256 (by omega) hb, if_neg n01, nI_1]
theorem r_ow88 {w : Tw} {N : Nat} {a b c d e : Int32} {k40 : Int32 → Int32 → Int32 → Int32 → Int32 → g_St → Option (Int32 × g_St)} {f : Nat → Nat} {M : Nat} (hM : M = 256) (hw : TwOK w) (hN : 8 < N) (hmass : sg M f ≤ 1000000000) : ∀ m s fu σ, s + m = 2 ^ tK w → m < fu → 1 ≤ s → RT w (σ.1 79) → h256 σ 84 f → h256 σ 85 (Hs (tW w) (tK w) f (fun x => if x = 0 then f 0 else 0) s 0) → ∃ τ, m_X11_oddsWithout_88 k40 N fu a b c d e (nI s) σ = m_X11_oddsWithout_199 k40 N N a b c d e 0 τ ∧ h256 τ 85 (Hs (tW w) (tK w) f (fun x => if x = 0 then f 0 else 0) (2 ^ tK w) 0) ∧ (∀ c, c ≠ 85 → τ.1 c = σ.1 c) ∧ τ.2 = σ.2 := by
  have hK := hw.2.1
  have hp := pow8 hK
  intro m
  induction m with
  | zero =>
    intro s fu σ hs hf h1 hT h84 h85
    obtain ⟨fu, rfl⟩ : ∃ f, fu = f + 1 := ⟨fu - 1, by omega⟩
    refine ⟨σ, ?_, fun y hy => by rw [h85 y hy, show s = 2 ^ tK w by omega], fun c _ => rfl, rfl⟩
    unfold m_X11_oddsWithout_88
    rw [hT.2.1, u_shl (tK w) (by omega), if_pos (a_le s (by omega) (by omega))]
  | succ m ih =>
    intro s fu σ hs hf h1 hT h84 h85
    obtain ⟨fu, rfl⟩ : ∃ f, fu = f + 1 := ⟨fu - 1, by omega⟩
    obtain ⟨x, x1, x2, x3, x4⟩ := r_ow112 (N := N) (s := s) (a := a) (b := b) (c := c) (d := d) (e := e) (k40 := k40) (k88 := m_X11_oddsWithout_88 k40 N fu) hM hw h1 (by omega) hmass (tK w) 0 N σ (by omega) (by omega) hT h84 h85
    obtain ⟨τ, t1, t2, t3, t4⟩ := ih (s + 1) fu x (by omega) (by omega) (by omega) (by rw [x3 79 (by omega)]; exact hT) (fun y hy => by rw [x3 84 (by omega)]; exact h84 y hy) x2
    refine ⟨τ, ?_, t2, fun c hc => (t3 c hc).trans (x3 c hc), t4.trans x4⟩
    rw [← t1, ← x1]
    conv => lhs; unfold m_X11_oddsWithout_88
    rw [hT.2.1, u_shl (tK w) (by omega), if_neg (a_nle (a := 2 ^ tK w) s (by omega) (by omega)), r_wt hT.2.1 hK hT.2.2.2.2.2 (by omega) hN, Option.bind_some]
    rfl
theorem r_ow40 {w : Tw} {N n D : Nat} {a b : Int32} (hw : TwOK w) (hD : D < 256) (hN : 300 < N) (hn : n ≤ 8) : ∀ m k fu σ, k + m = n → m < fu → RT w (σ.1 79) → h256 σ 84 (Qp (tW w) (tK w) D k) → ∃ τ, m_X11_oddsWithout_40 N fu a b (nI n) (nI D) (nI k) σ = m_X11_oddsWithout_239 N N a b (nI D) 0 0 τ ∧ h256 τ 84 (Qp (tW w) (tK w) D n) ∧ (∀ c, c ≠ 84 → c ≠ 85 → τ.1 c = σ.1 c) ∧ τ.2 = σ.2 := by
  have hK := hw.2.1
  have hp := pow8 hK
  intro m
  induction m with
  | zero =>
    intro k fu σ hk hf hT h84
    obtain ⟨fu, rfl⟩ : ∃ f, fu = f + 1 := ⟨fu - 1, by omega⟩
    refine ⟨σ, ?_, fun y hy => by rw [h84 y hy, show k = n by omega], fun c _ _ => rfl, rfl⟩
    unfold m_X11_oddsWithout_40
    rw [if_pos (a_le k (by omega) (by omega))]
  | succ m ih =>
    intro k fu σ hk hf hT h84
    obtain ⟨fu, rfl⟩ : ∃ f, fu = f + 1 := ⟨fu - 1, by omega⟩
    obtain ⟨M, hM⟩ : ∃ M, M = 256 := ⟨256, rfl⟩
    obtain ⟨x, x1, x2, x3, x4⟩ := r_ow49 (N := N) (a := a) (b := b) (c := nI n) (d := nI D) (e := nI k) (k40 := m_X11_oddsWithout_40 N fu) 256 0 N σ (by omega) (by omega) h84 (fun y hy => by omega)
    have x84 : h256 x 84 (Qp (tW w) (tK w) D k) := fun y hy => by rw [x3 84 (by omega)]; exact h84 y hy
    obtain ⟨z, z1, z2, z3, z4⟩ := r_ow88 (N := N) (a := a) (b := b) (c := nI n) (d := nI D) (e := nI k) (k40 := m_X11_oddsWithout_40 N fu) hM hw (by omega) (Q_mass (w := tW w) hM hK hD k) (2 ^ tK w - 1) 1 N x (by have := two_pos (tK w); omega) (by omega) (by omega) (by rw [x3 79 (by omega)]; exact hT) x84 (fun y hy => by rw [x2 y hy, H_start])
    obtain ⟨v, v1, v2, v3, v4⟩ := r_ow199 (N := N) (k := k) (a := a) (b := b) (c := nI n) (d := nI D) (k40 := m_X11_oddsWithout_40 N fu) 256 0 N z (by omega) (by omega) z2 (fun y hy => by omega)
    have hT' : RT w (v.1 79) := by rw [v3 79 (by omega), z3 79 (by omega), x3 79 (by omega)]; exact hT
    obtain ⟨τ, t1, t2, t3, t4⟩ := ih (k + 1) fu v (by omega) (by omega) hT' v2
    refine ⟨τ, ?_, t2, fun c c1 c2 => by rw [t3 c c1 c2, v3 c c1, z3 c c2, x3 c c2], by rw [t4, v4, z4, x4]⟩
    rw [← t1, ← v1]
    conv => lhs; unfold m_X11_oddsWithout_40
    rw [if_neg (a_nle (a := n) k (by omega) (by omega))]
    exact x1.trans z1
/-- what of a level's parts has enough of mine drawn -/
def oF (D M v : Nat) (q : Nat → Nat) : Nat → Nat := fun x => if v ≤ pc8 (dmF D M x) then q x else 0
theorem r_ow239 {w : Tw} {N D M v n : Nat} {σ : g_St} (hw : TwOK w) (hD : D < 256) (hv : v ≤ 8) (hN : 8 < N) (hT : RT w (σ.1 79)) (h84 : h256 σ 84 (Qp (tW w) (tK w) D n)) : ∀ m x fu, x + m = 2 ^ tK w → m < fu → m_X11_oddsWithout_239 N fu (nI M) (nI v) (nI D) (nI (sg x (oF D M v (Qp (tW w) (tK w) D n)))) (nI x) σ = some (nI (sg (2 ^ tK w) (oF D M v (Qp (tW w) (tK w) D n))), σ) := by
  have hK := hw.2.1
  have hp := pow8 hK
  intro m
  induction m with
  | zero =>
    intro x fu hx hf
    obtain ⟨fu, rfl⟩ : ∃ f, fu = f + 1 := ⟨fu - 1, by omega⟩
    unfold m_X11_oddsWithout_239
    rw [hT.2.1, u_shl (tK w) (by omega), if_pos (a_le x (by omega) (by omega)), show x = 2 ^ tK w by omega]
  | succ m ih =>
    intro x fu hx hf
    obtain ⟨fu, rfl⟩ : ∃ f, fu = f + 1 := ⟨fu - 1, by omega⟩
    have hn := ih (x + 1) fu (by omega) (by omega)
    rw [sg_s] at hn
    have hpc := pc8_le (dmF D M x) (dmF_lt hD)
    unfold m_X11_oddsWithout_239 m_X11_oddsWithout_281 g_lt
    rw [hT.2.1, u_shl (tK w) (by omega), if_neg (a_nle (a := 2 ^ tK w) x (by omega) (by omega)), nI_and, nI_andn (and_lt hD), show (D &&& M) &&& (255 ^^^ x) = dmF D M x from rfl, r_many (dmF_lt hD) hN, Option.bind_some]
    dsimp only
    rw [nI_1]
    by_cases q : v ≤ pc8 (dmF D M x)
    · rw [if_neg (a_nlt v q (by omega)), if_pos (a_in (show x < 256 by omega) (by omega)), nI_clamp (by omega), h84 x (by omega), nI_add]
      rw [show oF D M v (Qp (tW w) (tK w) D n) x = Qp (tW w) (tK w) D n x from if_pos q] at hn
      exact hn
    · rw [if_pos (a_lt v (by omega) (by omega)), show (0 : Int32) = nI 0 from rfl, nI_add]
      rw [show oF D M v (Qp (tW w) (tK w) D n) x = 0 from if_neg q] at hn
      exact hn
theorem r_oddsWithout {w : Tw} {N D M v n : Nat} {σ : g_St} (hw : TwOK w) (hD : D < 256) (hv : v ≤ 8) (hn : n ≤ 8) (hN : 300 < N) (hT : RT w (σ.1 79)) : ∃ τ, m_X11_oddsWithout N (nI M) (nI v) (nI n) (nI D) σ = some (nI (sg (2 ^ tK w) (oF D M v (Qp (tW w) (tK w) D n))), τ) ∧ (∀ c, c ≠ 84 → c ≠ 85 → τ.1 c = σ.1 c) ∧ τ.2 = σ.2 := by
  have hp := pow8 hw.2.1
  obtain ⟨x, x1, x2, x3, x4⟩ := r_ow3 (N := N) (a := nI M) (b := nI v) (c := nI n) (w := tW w) (K := tK w) hD 256 0 N σ (by omega) (by omega) (fun y hy => by omega)
  have hT' : RT w (x.1 79) := by rw [x3 79 (by omega)]; exact hT
  obtain ⟨τ, t1, t2, t3, t4⟩ := r_ow40 (N := N) (n := n) (a := nI M) (b := nI v) hw hD hN hn n 0 N x (by omega) (by omega) hT' x2
  have hT2 : RT w (τ.1 79) := by rw [t3 79 (by omega) (by omega)]; exact hT'
  refine ⟨τ, ?_, fun c c1 c2 => by rw [t3 c c1 c2, x3 c c1], t4.trans x4⟩
  unfold m_X11_oddsWithout
  exact (x1.trans t1).trans (r_ow239 hw hD hv (by omega) hT2 t2 (2 ^ tK w) 0 N (by omega) (by omega))
theorem oF_le {w : Nat → Nat} {K D M v n : Nat} (hK : K ≤ 8) (hD : D < 256) : sg (2 ^ K) (oF D M v (Qp w K D n)) ≤ 1000000000 := by
  obtain ⟨m, hm⟩ : ∃ M, M = 256 := ⟨256, rfl⟩
  have h1 := Q_mass (w := w) hm hK hD n
  have h2 := sg_mono (F := oF D M v (Qp w K D n)) m (show 2 ^ K ≤ m by rw [hm]; exact pow8 hK)
  have h3 := sg_leF (F := oF D M v (Qp w K D n)) (G := Qp w K D n) m (fun u _ => by unfold oF; split <;> omega)
  omega
