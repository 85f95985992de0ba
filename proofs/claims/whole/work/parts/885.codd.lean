/-! the class's odds -/
theorem P_keep {w : Nat → Nat} {K D L c t x : Nat} (h : c ≤ x + 1) : Pd w K D L c t x = Pd w K D L (x + 1) 0 x := by
  unfold Pd
  refine congrArg ((if x = D then 1000000000 else 0) + ·) (sg_c K (fun u hu => ?_))
  have := two_pos u
  by_cases q : bt x u = false ∧ L < pc8 (x + 2 ^ u) ∧ x + 2 ^ u ≤ D
  · rw [if_pos ⟨q.1, q.2.1, Or.inl ⟨by omega, q.2.2⟩⟩, if_pos ⟨q.1, q.2.1, Or.inl ⟨by omega, q.2.2⟩⟩]
  · rw [if_neg (fun z => q ⟨z.1, z.2.1, by have := z.2.2; omega⟩), if_neg (fun z => q ⟨z.1, z.2.1, by have := z.2.2; omega⟩)]
def l256 (σ : g_St) (f : Nat → Nat) : Prop := ∀ y, y < 256 → σ.2 60 y = lN (f y)
theorem c_f60 {N : Nat} : ∀ m x fu σ, x + m = 256 → m < fu → (∀ y, y < x → σ.2 60 y = lN 0) → ∃ τ, m_J7_fillL_60_6 N fu 0 (nI x) 256 σ = some τ ∧ l256 τ (fun _ => 0) ∧ τ.1 = σ.1 ∧ (∀ c, c ≠ 60 → τ.2 c = σ.2 c) := by
  intro m
  induction m with
  | zero =>
    intro x fu σ hx hf h
    obtain ⟨fu, rfl⟩ : ∃ f, fu = f + 1 := ⟨fu - 1, by omega⟩
    refine ⟨σ, ?_, fun y hy => h y (by omega), rfl, fun c _ => rfl⟩
    unfold m_J7_fillL_60_6
    rw [if_pos (show (256 : Int32) ≤ nI x from a_le (a := 256) x (by omega) (by omega))]
  | succ m ih =>
    intro x fu σ hx hf h
    obtain ⟨fu, rfl⟩ : ∃ f, fu = f + 1 := ⟨fu - 1, by omega⟩
    obtain ⟨τ, t1, t2, t3, t4⟩ := ih (x + 1) fu (g_sL σ 60 x (lN 0)) (by omega) (by omega) (fun y hy => by
      by_cases e : y = x
      · subst e; rw [sL_k]
      · rw [sL_n e]; exact h y (by omega))
    refine ⟨τ, ?_, t2, by rw [t3]; simp (disch := omega) only [sI_o, sI_k, sI_n, sA_o, sA_s, sI_2, sA_2, sL_1, sL_o], fun c hc => by rw [t4 c hc]; simp (disch := omega) only [sI_o, sI_k, sI_n, sA_o, sA_s, sI_2, sA_2, sL_1, sL_o]⟩
    rw [← t1]
    conv => lhs; unfold m_J7_fillL_60_6 g_lt
    rw [if_neg (show ¬ (256 : Int32) ≤ nI x from a_nle (a := 256) x (by omega) (by omega)), if_pos (a_in (by omega) (by omega)), nI_clamp (by omega), nI_1]
    rfl
theorem bt_ex2 : ∀ K, K < 9 → ∀ s, s < 2 ^ K → s ≠ 0 → ∃ t, t < K ∧ bt s t = true := by decide +kernel
theorem lN_z : (0 : Int64) = lN 0 := rfl
theorem c_hand {w : Tw} {N s D n : Nat} (hw : TwOK w) (hD : D < 2 ^ tK w) (hs : s ≤ D) (hL : lft D n < pc8 s) : ∀ m t fu σ, t + m = tK w → m < fu → CT w σ → l256 σ (Pd (tW w) (tK w) D (lft D n) (s + 1) t) → ∃ τ, m_X2_handOn_15 N fu (nI s) (nI (wsm (tW w) s (tK w))) (nI t) σ = some τ ∧ l256 τ (Pd (tW w) (tK w) D (lft D n) (s + 1) (tK w)) ∧ τ.1 = σ.1 ∧ (∀ c, c ≠ 60 → τ.2 c = σ.2 c) := by
  have hK := hw.2.1
  have hp := pow8 hK
  have hs256 : s < 256 := by omega
  have hq : qp (tW w) (tK w) D s ≤ 1000000000 := Q_le hK (by omega) hs256
  intro m
  induction m with
  | zero =>
    intro t fu σ ht hf hT h
    obtain ⟨fu, rfl⟩ : ∃ f, fu = f + 1 := ⟨fu - 1, by omega⟩
    refine ⟨σ, ?_, by rw [show t = tK w by omega] at h; exact h, rfl, fun c _ => rfl⟩
    unfold m_X2_handOn_15
    rw [hT.2.1, if_pos (a_le t (by omega) (by omega))]
  | succ m ih =>
    intro t fu σ ht hf hT h
    obtain ⟨fu, rfl⟩ : ∃ f, fu = f + 1 := ⟨fu - 1, by omega⟩
    have hw1 := hw.2.2.2.2.2.2.1 t (by omega)
    by_cases hb : bt s t = true
    · obtain ⟨b1, b2, b3⟩ := bx2 s hs256 t (by omega) hb
      have hW := wsm_ge (w := tW w) hb (tK w) (by omega)
      have hW2 := wsm_le (w := tW w) (S := s) (b := 9) (tK w) (fun t ht => (hw.2.2.2.2.2.2.1 t ht).2)
      have i2 : g_in (nI (cl s t)) 256 := a_in (by omega) (by omega)
      have hst := P_step (w := tW w) (K := tK w) (D := D) (L := lft D n) (s := s) (t := t) (x := cl s t) hK (by omega) (by omega) hs256 hL
      rw [if_pos ⟨hb, rfl⟩] at hst
      have hv : σ.2 60 s = lN (qp (tW w) (tK w) D s) := by
        rw [h s hs256, P_keep (by omega), P_met2 hK hD hs256 hs, if_pos (by omega)]
      have hm : qp (tW w) (tK w) D s * tW w t ≤ 1000000000 * 9 := Nat.mul_le_mul hq hw1.2
      obtain ⟨τ, t1, t2, t3, t4⟩ := ih (t + 1) fu (g_sL σ 60 (cl s t) (lN (Pd (tW w) (tK w) D (lft D n) (s + 1) t (cl s t) + qp (tW w) (tK w) D s * tW w t / wsm (tW w) s (tK w)))) (by omega) (by omega) hT (fun y hy => by
        by_cases q : y = cl s t
        · subst q; rw [sL_k, hst]
        · rw [sL_n q, h y hy, P_step hK (by omega) hy hs256 hL, if_neg (fun z => q z.2)]; exact congrArg lN (Nat.add_zero _).symm)
      refine ⟨τ, ?_, t2, t3, fun c hc => by rw [t4 c hc]; simp (disch := omega) only [sI_o, sI_k, sI_n, sA_o, sA_s, sI_2, sA_2, sL_1, sL_o]⟩
      rw [← t1]
      conv => lhs; unfold m_X2_handOn_15 m_X2_handOn_67 g_lt
      dsimp only
      rw [hT.2.1, if_neg (a_nle (a := tK w) t (by omega) (by omega)), c_holds hs256 (by omega), Option.bind_some, if_pos hb]
      dsimp only
      rw [if_neg n10, u_clr s hs256 t (by omega), if_pos i2, if_pos (a_in (by omega) (by omega)), if_pos (a_in (by omega) (by omega)), if_neg (g_ne (by omega) (by omega)), if_pos i2, nI_clamp (show cl s t < 2 ^ 31 by omega), nI_clamp (show s < 2 ^ 31 by omega), nI_clamp (show t < 2 ^ 31 by omega), h _ (by omega), hv, hT.2.2.2.2.2 t (by omega), nI_l (by omega), nI_l (by omega), lN_mul, pk_lDiv (by omega) (by omega) (by omega), lN_add, nI_1]
    · obtain ⟨τ, t1, t2, t3, t4⟩ := ih (t + 1) fu σ (by omega) (by omega) hT (fun y hy => by rw [h y hy, P_step hK (by omega) hy hs256 hL, if_neg (fun z => hb z.1)]; exact congrArg lN (Nat.add_zero _).symm)
      refine ⟨τ, ?_, t2, t3, t4⟩
      rw [← t1]
      conv => lhs; unfold m_X2_handOn_15 m_X2_handOn_67 g_lt
      dsimp only
      rw [hT.2.1, if_neg (a_nle (a := tK w) t (by omega) (by omega)), c_holds hs256 (by omega), Option.bind_some, if_neg hb]
      dsimp only
      rw [if_pos rfl, nI_1]
/-- the ends: sets with so many left that have a part -/
def eF (w : Tw) (D n : Nat) (G : Nat → Nat) (x : Nat) : Nat := if pc8 x = lft D n then (if qp (tW w) (tK w) D x = 0 then 0 else G x) else 0
theorem n70 : ∀ L, L < 9 → sg 256 (fun x => if pc8 x = L then 1 else 0) ≤ 70 := by decide +kernel
theorem e70 {w : Tw} {D n : Nat} (hD : D < 256) : sg (D + 1) (eF w D n (fun _ => 1)) ≤ 70 := by
  obtain ⟨M, hM⟩ : ∃ M, M = 256 := ⟨256, rfl⟩
  have hl : lft D n ≤ 8 := by have := lft_le D n; have := pc8_le D hD; omega
  have h1 := n70 (lft D n) (by omega)
  rw [← hM] at h1
  have h2 := sg_mono (F := eF w D n (fun _ => 1)) (j := D + 1) M (by omega)
  have h3 := sg_leF (F := eF w D n (fun _ => 1)) (G := fun x => if pc8 x = lft D n then 1 else 0) M (fun u _ => by unfold eF; dsimp only; split <;> (try split) <;> omega)
  omega
theorem sg_1 : ∀ e, sg e (fun _ => 1) = e
  | 0 => rfl
  | e + 1 => by rw [sg_s, sg_1 e]
def EI (w : Tw) (D n c : Nat) (σ : g_St) : Prop := ∃ (e : Nat) (E : Nat → Nat), σ.1 59 5 = nI e ∧ (∀ i, i < e → c ≤ E i ∧ E i ≤ D ∧ pc8 (E i) = lft D n ∧ σ.1 61 i = nI (E i)) ∧ ∀ G, sg e (fun i => G (E i)) + sg c (eF w D n G) = sg (D + 1) (eF w D n G)
theorem EI_skip {w : Tw} {D n s : Nat} {σ : g_St} (h : EI w D n (s + 1) σ) (h0 : ∀ G, eF w D n G s = 0) : EI w D n s σ := by
  obtain ⟨e, E, h1, h2, h3⟩ := h
  refine ⟨e, E, h1, fun i hi => ⟨by have := (h2 i hi).1; omega, (h2 i hi).2⟩, fun G => ?_⟩
  have := h3 G
  rw [sg_s s, h0 G] at this
  exact this
theorem c_ps {w : Tw} {N D n : Nat} (hw : TwOK w) (hD : D < 2 ^ tK w) (hN : 8 < N) : ∀ c fu σ, c ≤ D + 1 → c < fu → CT w σ → l256 σ (Pd (tW w) (tK w) D (lft D n) c 0) → EI w D n c σ → ∃ τ, m_X2_partSets_63 N fu (nI (lft D n)) (nI c - 1) σ = some τ ∧ l256 τ (Pd (tW w) (tK w) D (lft D n) 0 0) ∧ EI w D n 0 τ ∧ (∀ c, c ≠ 59 → c ≠ 61 → τ.1 c = σ.1 c) ∧ (∀ j, j ≠ 5 → τ.1 59 j = σ.1 59 j) ∧ (∀ c, c ≠ 60 → τ.2 c = σ.2 c) := by
  have hK := hw.2.1
  have hp := pow8 hK
  have hl : lft D n ≤ 8 := by have := lft_le D n; have := pc8_le D (by omega); omega
  intro c
  induction c with
  | zero =>
    intro fu σ hc hf hT h hE
    obtain ⟨fu, rfl⟩ : ∃ f, fu = f + 1 := ⟨fu - 1, by omega⟩
    refine ⟨σ, ?_, h, hE, fun c _ _ => rfl, fun j _ => rfl, fun c _ => rfl⟩
    unfold m_X2_partSets_63
    rw [if_pos (show nI 0 - 1 < (0 : Int32) by decide)]
  | succ s ih =>
    intro fu σ hc hf hT h hE
    obtain ⟨fu, rfl⟩ : ∃ f, fu = f + 1 := ⟨fu - 1, by omega⟩
    have hs256 : s < 256 := by omega
    have i1 : g_in (nI s) 256 := a_in (by omega) (by omega)
    have hq : qp (tW w) (tK w) D s ≤ 1000000000 := Q_le hK (by omega) hs256
    have hv : σ.2 60 s = lN (if lft D n ≤ pc8 s then qp (tW w) (tK w) D s else 0) := by rw [h s hs256, P_met2 hK hD hs256 (by omega)]
    by_cases h0 : (if lft D n ≤ pc8 s then qp (tW w) (tK w) D s else 0) = 0
    · obtain ⟨τ, t1, t2⟩ := ih fu σ (by omega) (by omega) hT (fun y hy => by
        rw [h y hy, P_skip (by omega)]
        by_cases q : lft D n ≤ pc8 s
        · rw [if_pos q] at h0; exact Or.inl h0
        · exact Or.inr (by omega)) (EI_skip hE (fun G => by
          unfold eF
          by_cases q : pc8 s = lft D n
          · rw [if_pos (by omega)] at h0; rw [if_pos q, if_pos h0]
          · rw [if_neg q]))
      refine ⟨τ, ?_, t2⟩
      rw [← t1]
      conv => lhs; unfold m_X2_partSets_63 m_X2_partSets_127 g_lt
      dsimp only
      simp only [lc_eq]
      rw [nI_pred, if_neg (nI_pos (by omega)), if_pos i1, nI_clamp (by omega), hv, h0, if_pos (show lN 0 = 0 from rfl), em1]
    · have hne : ¬ σ.2 60 s = 0 := by
        rw [hv, lN_z, pk_lEQ (by split <;> omega) (by omega)]; exact h0
      have hle : lft D n ≤ pc8 s := by
        apply Classical.byContradiction
        intro q
        rw [if_neg q] at h0
        exact h0 rfl
      rw [if_pos hle] at h0
      by_cases hend : pc8 s ≤ lft D n
      · -- an end
        obtain ⟨e, E, e1, e2, e3⟩ := hE
        have he : e + 1 ≤ 70 := by
          have a1 := e3 (fun _ => 1)
          have a2 := e70 (w := w) (D := D) (n := n) (by omega)
          rw [sg_1, sg_s s, show eF w D n (fun _ => 1) s = 1 by unfold eF; rw [if_pos (by omega), if_neg h0]] at a1
          omega
        obtain ⟨τ, t1, t2, t3, t4, t5, t6⟩ := ih fu (g_sI (g_sI σ 61 e (nI s)) 59 5 (nI (e + 1))) (by omega) (by omega) (CT_k hT (fun c _ _ => by simp (disch := omega) only [sI_o, sI_k, sI_n, sA_o, sA_s, sI_2, sA_2, sL_1, sL_o])) (fun y hy => by
          show σ.2 60 y = _
          rw [h y hy, P_skip (by omega) (Or.inr hend)]) ⟨e + 1, fun i => if i = e then s else E i, sI_k, fun i hi => by
            dsimp only
            by_cases q : i = e
            · rw [if_pos q, q]
              refine ⟨Nat.le_refl _, by omega, by omega, ?_⟩
              rw [sI_o (by omega), sI_k]
            · rw [if_neg q]
              obtain ⟨g1, g2, g3, g4⟩ := e2 i (by omega)
              refine ⟨by omega, g2, g3, ?_⟩
              rw [sI_o (by omega), sI_n q]; exact g4, fun G => by
            have a1 := e3 G
            rw [sg_s s, show eF w D n G s = G s by unfold eF; rw [if_pos (by omega), if_neg h0]] at a1
            rw [sg_s e, sg_c (G := fun i => G (E i)) e (fun u hu => by dsimp only; rw [if_neg (by omega)])]
            dsimp only
            rw [if_pos rfl]
            omega⟩
        refine ⟨τ, ?_, t2, t3, fun c c1 c2 => by rw [t4 c c1 c2]; simp (disch := omega) only [sI_o, sI_k, sI_n, sA_o, sA_s, sI_2, sA_2, sL_1, sL_o], fun j hj => by rw [t5 j hj]; simp (disch := omega) only [sI_o, sI_k, sI_n, sA_o, sA_s, sI_2, sA_2, sL_1, sL_o], fun c hc => by rw [t6 c hc]; simp (disch := omega) only [sI_o, sI_k, sI_n, sA_o, sA_s, sI_2, sA_2, sL_1, sL_o]⟩
        rw [← t1]
        conv => lhs; unfold m_X2_partSets_63 m_X2_partSets_127 g_lt
        dsimp only
        simp only [lc_eq]
        rw [nI_pred, if_neg (nI_pos (by omega)), if_pos i1, nI_clamp (by omega), if_neg hne, bc_256 s hs256, Option.bind_some]
        dsimp only
        rw [if_pos (a_le _ hend (by omega)), e1, if_neg (show ¬ (70 : Int32) ≤ nI e from a_nle (a := 70) e (by omega) (by omega)), if_pos (a_in (by omega) (by omega)), nI_clamp (by omega), sI_o (by omega), e1, nI_1, em1]
      · -- hand on
        have hW : 1 ≤ wsm (tW w) s (tK w) := by
          obtain ⟨t, ht, hb⟩ := bt_ex2 (tK w) (by omega) s (by omega) (fun q => by rw [q, pc8_0] at hend; omega)
          have := wsm_ge (w := tW w) hb (tK w) (by omega)
          have := (hw.2.2.2.2.2.2.1 t ht).1
          omega
        have hW2 := wsm_le (w := tW w) (S := s) (b := 9) (tK w) (fun t ht => (hw.2.2.2.2.2.2.1 t ht).2)
        obtain ⟨x, x1, x2, x3, x4⟩ := c_hand (N := N) (n := n) hw hD (show s ≤ D by omega) (by omega) (tK w) 0 N σ (by omega) (by omega) hT h
        obtain ⟨τ, t1, t2, t3, t4, t5, t6⟩ := ih fu x (by omega) (by omega) (CT_k hT (fun c _ _ => by rw [x3])) (fun y hy => by rw [x2 y hy, P_next (by omega)]) (by
          refine EI_skip ?_ (fun G => by unfold eF; rw [if_neg (by omega)])
          unfold EI at *
          rw [x3]; exact hE)
        refine ⟨τ, ?_, t2, t3, fun c c1 c2 => by rw [t4 c c1 c2, x3], fun j hj => by rw [t5 j hj, x3], fun c hc => by rw [t6 c hc, x4 c hc]⟩
        rw [← t1]
        conv => lhs; unfold m_X2_partSets_63 m_X2_partSets_127 g_lt
        dsimp only
        simp only [lc_eq]
        rw [nI_pred, if_neg (nI_pos (by omega)), if_pos i1, nI_clamp (by omega), if_neg hne, bc_256 s hs256, Option.bind_some]
        dsimp only
        rw [if_neg (a_nle _ (by omega) (by have := pc8_le s hs256; omega))]
        unfold m_X2_handOn
        rw [c_wt hT.2.1 hK hT.2.2.2.2.2 hs256 hN, Option.bind_some]
        dsimp only
        rw [if_pos (show (1 : Int32) ≤ nI _ from a_le (a := 1) _ hW (by omega)), show (0 : Int32) = nI 0 from rfl, x1, Option.bind_some, em1]
/-- what begin leaves for atLeast -/
def CH (w : Tw) (D n : Nat) (σ : g_St) : Prop := σ.1 59 3 = nI D ∧ (tR w = 0 → ∃ (e : Nat) (E : Nat → Nat), e ≤ 70 ∧ σ.1 59 5 = nI e ∧ (∀ i, i < e → E i ≤ D ∧ σ.1 61 i = nI (E i) ∧ σ.2 60 (E i) = lN (qp (tW w) (tK w) D (E i))) ∧ ∀ G, sg e (fun i => G (E i)) = sg (D + 1) (eF w D n G)) ∧ (tR w = 1 → σ.1 59 4 = nI n)
theorem c_begin {w : Tw} {N D n : Nat} {σ : g_St} (hw : TwOK w) (hD : D < 2 ^ tK w) (hn : n ≤ 8) (hN : 300 < N) (hT : CT w σ) : ∃ τ, m_X2_begin N (nI D) (nI n) σ = some τ ∧ CH w D n τ ∧ (∀ c, c ≠ 59 → c ≠ 61 → τ.1 c = σ.1 c) ∧ (∀ c, c ≠ 60 → τ.2 c = σ.2 c) := by
  have hK := hw.2.1
  have hp := pow8 hK
  have hpc := pc8_le D (by omega)
  have h5 := hT.2.2.2.1
  by_cases hR : tR w = 0
  · rw [hR] at h5
    have hmn : (if nI (pc8 D) < nI n then nI (pc8 D) else nI n) = nI (if pc8 D < n then pc8 D else n) := by
      by_cases q : pc8 D < n
      · rw [if_pos q, if_pos (a_lt n q (by omega))]
      · rw [if_neg q, if_neg (a_nlt n (by omega) (by omega))]
    obtain ⟨x, x1, x2, x3, x4⟩ := c_f60 (N := N) 256 0 N (g_sI (g_sI σ 59 3 (nI D)) 59 4 (nI (if pc8 D < n then pc8 D else n))) (by omega) (by omega) (fun y hy => by omega)
    have hy3 : (g_sI x 59 5 0).1 59 3 = nI D := by rw [sI_n (by omega), x3]; simp (disch := omega) only [sI_o, sI_k, sI_n, sA_o, sA_s, sI_2, sA_2, sL_1, sL_o]
    have hy4 : (g_sL (g_sI x 59 5 0) 60 D 1000000000).1 59 4 = nI (if pc8 D < n then pc8 D else n) := by rw [sL_1, sI_n (by omega), x3]; simp (disch := omega) only [sI_o, sI_k, sI_n, sA_o, sA_s, sI_2, sA_2, sL_1, sL_o]
    obtain ⟨τ, t1, t2, t3, t4, t5, t6⟩ := c_ps (n := n) hw hD (show 8 < N by omega) (D + 1) N (g_sL (g_sI x 59 5 0) 60 D 1000000000) (Nat.le_refl _) (by omega) (CT_k hT (fun c _ _ => by rw [sL_1, sI_o (by omega), x3]; simp (disch := omega) only [sI_o, sI_k, sI_n, sA_o, sA_s, sI_2, sA_2, sL_1, sL_o])) (fun y hy => by
      rw [P_start]
      by_cases q : y = D
      · subst q; rw [sL_k, if_pos rfl]; rfl
      · rw [sL_n q, if_neg q]; exact x2 y hy) ⟨0, fun _ => 0, by rw [sL_1, sI_k]; rfl, fun i hi => by omega, fun G => by show 0 + _ = _; rw [Nat.zero_add]⟩
    refine ⟨τ, ?_, ⟨?_, fun _ => ?_, fun q => absurd hR (by omega)⟩, fun c c1 c2 => by rw [t4 c c1 c2, sL_1, sI_o c1, x3]; simp (disch := omega) only [sI_o, sI_k, sI_n, sA_o, sA_s, sI_2, sA_2, sL_1, sL_o], fun c hc => by rw [t6 c hc, sL_o hc, sI_2, x4 c hc]; simp (disch := omega) only [sI_o, sI_k, sI_n, sA_o, sA_s, sI_2, sA_2, sL_1, sL_o]⟩
    · unfold m_X2_begin m_X2_begin_25 g_lt
      dsimp only
      rw [sI_o (by omega), h5, if_pos (show nI 0 = 0 from rfl), bc_256 D (by omega), Option.bind_some]
      dsimp only
      rw [hmn, sI_o (by omega), sI_o (by omega), h5, if_pos (show nI 0 = 0 from rfl)]
      unfold m_X2_partSets m_J7_fillL_60 g_lt
      rw [show (0 : Int32) = nI 0 from rfl, x1, Option.bind_some]
      dsimp only
      rw [show nI 0 = (0 : Int32) from rfl, hy3, if_neg (nI_pos (by omega)), if_pos (show nI D < (256 : Int32) from a_lt 256 (by omega) (by omega)), if_pos (a_in (by omega) (by omega)), nI_clamp (by omega), sL_1, hy3, bc_256 D (by omega), Option.bind_some]
      dsimp only
      have e3 : (g_sL (g_sI x 59 5 0) 60 D 1000000000).1 59 3 = nI D := hy3
      rw [hy4, e3, pk_sub (by split <;> omega), show pc8 D - (if pc8 D < n then pc8 D else n) = lft D n from rfl, ← @nI_pred D, t1, Option.bind_some]
    · rw [t5 3 (by omega)]; exact hy3
    · obtain ⟨e, E, e1, e2, e3⟩ := t3
      refine ⟨e, E, ?_, e1, fun i hi => ?_, fun G => ?_⟩
      · have a1 := e3 (fun _ => 1)
        have a2 := e70 (w := w) (D := D) (n := n) (by omega)
        rw [sg_1] at a1
        omega
      · obtain ⟨g1, g2, g3, g4⟩ := e2 i hi
        refine ⟨g2, g4, ?_⟩
        rw [t2 _ (by omega), P_keep (by omega), P_met2 hK hD (by omega) g2, if_pos (by omega)]
      · have := e3 G
        rw [show sg 0 (eF w D n G) = 0 from rfl] at this
        omega
  · have hR1 : tR w = 1 := by have := hw.2.2.2.2.1; omega
    rw [hR1] at h5
    refine ⟨g_sI (g_sI σ 59 3 (nI D)) 59 4 (nI n), ?_, ⟨by simp (disch := omega) only [sI_o, sI_k, sI_n, sA_o, sA_s, sI_2, sA_2, sL_1, sL_o], fun q => absurd q hR, fun _ => by simp (disch := omega) only [sI_o, sI_k, sI_n, sA_o, sA_s, sI_2, sA_2, sL_1, sL_o]⟩, fun c c1 c2 => by simp (disch := omega) only [sI_o, sI_k, sI_n, sA_o, sA_s, sI_2, sA_2, sL_1, sL_o], fun c hc => by simp (disch := omega) only [sI_o, sI_k, sI_n, sA_o, sA_s, sI_2, sA_2, sL_1, sL_o]⟩
    unfold m_X2_begin m_X2_begin_25 g_lt
    dsimp only
    rw [sI_o (by omega), h5, if_neg (show ¬ nI 1 = 0 by decide), sI_o (by omega), sI_o (by omega), h5, if_neg (show ¬ nI 1 = 0 by decide)]
