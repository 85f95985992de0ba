/-! at least so many; odds; never -/
def OD (w : Tw) (D M v n : Nat) : Nat := if tR w = 1 then oW (wsm (tW w) M (tK w)) (wsm (tW w) (2 ^ tK w - 1) (tK w)) n v else sg (2 ^ tK w) (oF D M v (Qp (tW w) (tK w) D n))
theorem OD_le {w : Tw} {D M v n : Nat} (hw : TwOK w) (hD : D < 256) (hn : n ≤ 8) : OD w D M v n ≤ 1000000000 := by
  unfold OD
  split
  · exact oW_le (wsm_all hw.2.1) hn
  · exact oF_le hw.2.1 hD
theorem sg_ext {F : Nat → Nat} {a : Nat} : ∀ b, a ≤ b → (∀ x, a ≤ x → x < b → F x = 0) → sg b F = sg a F
  | 0, h, _ => by rw [show a = 0 by omega]
  | b + 1, h, h0 => by
    by_cases e : a = b + 1
    · rw [e]
    · rw [sg_s, sg_ext b (by omega) (fun x h1 h2 => h0 x h1 (by omega)), h0 b (by omega) (by omega), Nat.add_zero]
theorem eF_oF {w : Tw} {D M v n : Nat} (hw : TwOK w) (hD : D < 2 ^ tK w) : sg (D + 1) (eF w D n (fun x => if v ≤ pc8 (dmF D M x) then qp (tW w) (tK w) D x else 0)) = sg (2 ^ tK w) (oF D M v (Qp (tW w) (tK w) D n)) := by
  have hK := hw.2.1
  have hp := pow8 hK
  rw [sg_ext (a := D + 1) (2 ^ tK w) (by omega) (fun x h1 h2 => ?_)]
  · refine sg_c (D + 1) (fun x hx => ?_)
    unfold eF oF
    rw [Q_qp hK hD (by omega)]
    by_cases q : pc8 x = lft D n
    · rw [if_pos q, if_pos q]
      by_cases q2 : qp (tW w) (tK w) D x = 0
      · rw [if_pos q2, q2, ite_self]
      · rw [if_neg q2]
    · rw [if_neg q, if_neg q, ite_self]
  · unfold oF
    rw [Q_qp hK hD (by omega)]
    have e0 : qp (tW w) (tK w) D x = 0 := by
      apply Classical.byContradiction
      intro q
      have := (Q_supp hK hD (pc8 D - pc8 x) (by omega) x (by omega) q).2
      omega
    rw [e0, ite_self, ite_self]
theorem c_alw {w : Tw} {N D M v n e : Nat} {E : Nat → Nat} {σ : g_St} (hD : D < 256) (hv : v < 2 ^ 31) (he : e ≤ 70) (h3 : σ.1 59 3 = nI D) (h5 : σ.1 59 5 = nI e) (hE : ∀ i, i < e → E i ≤ D ∧ σ.1 61 i = nI (E i) ∧ σ.2 60 (E i) = lN (qp (tW w) (tK w) D (E i))) : ∀ m i fu, i + m = e → m < fu → m_X2_atLeastWithout_5 N fu (nI M) (nI v) (lN (sg i (fun i => if v ≤ pc8 (dmF D M (E i)) then qp (tW w) (tK w) D (E i) else 0))) (nI i) σ = some (lN (sg e (fun i => if v ≤ pc8 (dmF D M (E i)) then qp (tW w) (tK w) D (E i) else 0)), σ) := by
  intro m
  induction m with
  | zero =>
    intro i fu hi hf
    obtain ⟨fu, rfl⟩ : ∃ f, fu = f + 1 := ⟨fu - 1, by omega⟩
    unfold m_X2_atLeastWithout_5
    rw [h5, if_pos (a_le i (by omega) (by omega)), show i = e by omega]
  | succ m ih =>
    intro i fu hi hf
    obtain ⟨fu, rfl⟩ : ∃ f, fu = f + 1 := ⟨fu - 1, by omega⟩
    have hn := ih (i + 1) fu (by omega) (by omega)
    rw [sg_s] at hn
    obtain ⟨g1, g2, g3⟩ := hE i (by omega)
    have hpc := pc8_le (dmF D M (E i)) (dmF_lt hD)
    have i1 : g_in (nI i) 70 := a_in (by omega) (by omega)
    have ec : D &&& (255 ^^^ E i) &&& M = dmF D M (E i) := by unfold dmF; rw [Nat.and_assoc, Nat.and_comm (255 ^^^ E i), ← Nat.and_assoc]
    unfold m_X2_atLeastWithout_5 m_X2_atLeastWithout_56 g_lt
    dsimp only
    rw [h5, if_neg (a_nle (a := e) i (by omega) (by omega)), if_pos i1, nI_clamp (by omega), h3, g2, nI_andn hD, nI_and, ec, bc_256 _ (dmF_lt hD), Option.bind_some]
    dsimp only
    rw [nI_1]
    by_cases q : v ≤ pc8 (dmF D M (E i))
    · rw [if_neg (a_nlt v q (by omega)), if_pos i1, g2, if_pos (a_in (by omega) (by omega)), nI_clamp (by omega), g3, lN_add]
      rw [if_pos q] at hn
      exact hn
    · rw [if_pos (a_lt v (by omega) hv)]
      rw [if_neg q, Nat.add_zero] at hn
      exact hn
def h9 (σ : g_St) (t : Nat → Nat) : Prop := ∀ j, j < 9 → σ.2 62 j = lN (t j)
theorem c_f62 {N : Nat} : ∀ m x fu σ, x + m = 9 → m < fu → (∀ y, y < x → σ.2 62 y = lN 0) → ∃ τ, m_J7_fillL_62_6 N fu 0 (nI x) 9 σ = some τ ∧ h9 τ (fun _ => 0) ∧ τ.1 = σ.1 ∧ (∀ c, c ≠ 62 → τ.2 c = σ.2 c) := by
  intro m
  induction m with
  | zero =>
    intro x fu σ hx hf h
    obtain ⟨fu, rfl⟩ : ∃ f, fu = f + 1 := ⟨fu - 1, by omega⟩
    refine ⟨σ, ?_, fun y hy => h y (by omega), rfl, fun c _ => rfl⟩
    unfold m_J7_fillL_62_6
    rw [if_pos (show (9 : Int32) ≤ nI x from a_le (a := 9) x (by omega) (by omega))]
  | succ m ih =>
    intro x fu σ hx hf h
    obtain ⟨fu, rfl⟩ : ∃ f, fu = f + 1 := ⟨fu - 1, by omega⟩
    obtain ⟨τ, t1, t2, t3, t4⟩ := ih (x + 1) fu (g_sL σ 62 x (lN 0)) (by omega) (by omega) (fun y hy => by
      by_cases e : y = x
      · subst e; rw [sL_k]
      · rw [sL_n e]; exact h y (by omega))
    refine ⟨τ, ?_, t2, by rw [t3]; simp (disch := omega) only [sI_o, sI_k, sI_n, sA_o, sA_s, sI_2, sA_2, sL_1, sL_o], fun c hc => by rw [t4 c hc]; simp (disch := omega) only [sI_o, sI_k, sI_n, sA_o, sA_s, sI_2, sA_2, sL_1, sL_o]⟩
    rw [← t1]
    conv => lhs; unfold m_J7_fillL_62_6 g_lt
    rw [if_neg (show ¬ (9 : Int32) ≤ nI x from a_nle (a := 9) x (by omega) (by omega)), if_pos (a_in (by omega) (by omega)), nI_clamp (by omega), nI_1]
    rfl
theorem c_w132 {σ : g_St} {t : Nat → Nat} {N : Nat} (h : h9 σ t) : ∀ m k a fu, (k + m = 9 ∨ (m = 0 ∧ 9 ≤ k)) → k < 2 ^ 31 → m < fu → m_X2_atLeastWith_132 N fu (lN a) (nI k) σ = some (lN (ta t m k a), σ) := by
  intro m
  induction m with
  | zero =>
    intro k a fu hk hk2 hf
    obtain ⟨fu, rfl⟩ : ∃ f, fu = f + 1 := ⟨fu - 1, by omega⟩
    unfold m_X2_atLeastWith_132
    rw [if_pos (show (8 : Int32) < nI k from a_lt (a := 8) k (by omega) hk2)]
    rfl
  | succ m ih =>
    intro k a fu hk hk2 hf
    obtain ⟨fu, rfl⟩ : ∃ f, fu = f + 1 := ⟨fu - 1, by omega⟩
    unfold m_X2_atLeastWith_132 g_lt
    rw [if_neg (show ¬ (8 : Int32) < nI k from a_nlt (a := 8) k (by omega) (by omega)), if_pos (a_in (by omega) (by omega)), nI_clamp (by omega), h k (by omega), lN_add, nI_1]
    exact ih (k + 1) (a + t k) fu (by omega) (by omega) (by omega)
theorem c_w62 {A B M N : Nat} (hM : M = 10) (hA : A ≤ B) (hB : 0 < B) (hB2 : B ≤ 100) {k : Nat} {a : Int32} {k37 : Int32 → Int32 → Int32 → Int32 → g_St → Option (Int64 × g_St)} : ∀ c t σ fu, WI M t → h9 σ t → c ≤ 8 → c < fu → ∃ τ, m_X2_atLeastWith_62 k37 N fu a (nI B) (nI A) (nI k) (nI c - 1) σ = k37 a (nI B) (nI A) (nI (k + 1)) τ ∧ h9 τ (wIn A B c t) ∧ τ.1 = σ.1 ∧ (∀ c, c ≠ 62 → τ.2 c = σ.2 c) := by
  intro c
  induction c with
  | zero =>
    intro t σ fu hw h hc hf
    obtain ⟨fu, rfl⟩ : ∃ f, fu = f + 1 := ⟨fu - 1, by omega⟩
    refine ⟨σ, ?_, h, rfl, fun c _ => rfl⟩
    unfold m_X2_atLeastWith_62 g_lt
    rw [if_pos (show nI 0 - 1 < (0 : Int32) by decide), nI_1]
  | succ c ih =>
    intro t σ fu hw h hc hf
    obtain ⟨fu, rfl⟩ : ∃ f, fu = f + 1 := ⟨fu - 1, by omega⟩
    have hm : t c * A / B ≤ t c := gstep_le hA hB
    have htc : t c ≤ 1000000000 := Nat.le_trans (sg_mem M (by omega)) hw.1
    have hmm : t c * A ≤ 1000000000 * 100 := Nat.mul_le_mul htc (by omega)
    have i1 : g_in (nI c) 9 := a_in (by omega) (by omega)
    have i2 : g_in (nI (c + 1)) 9 := a_in (by omega) (by omega)
    obtain ⟨τ, t1, t2, t3, t4⟩ := ih (stW A B c t) (g_sL (g_sL σ 62 (c + 1) (lN (t (c + 1) + t c * A / B))) 62 c (lN (t c - t c * A / B))) fu (WI_st hM hA hB (by omega) hw) (fun j hj => by
      by_cases e1 : j = c
      · subst e1; rw [stW_c, sL_k]
      · by_cases e2 : j = c + 1
        · subst e2; rw [stW_d, sL_n (by omega), sL_k]
        · rw [stW_o e1 e2, sL_n e1, sL_n e2]; exact h j hj) (by omega) (by omega)
    refine ⟨τ, ?_, t2, t3, fun c hc => by rw [t4 c hc]; simp (disch := omega) only [sI_o, sI_k, sI_n, sA_o, sA_s, sI_2, sA_2, sL_1, sL_o]⟩
    rw [← t1]
    conv => lhs; unfold m_X2_atLeastWith_62 g_lt
    dsimp only
    rw [nI_pred, if_neg (nI_pos (by omega)), if_pos i1, if_neg (g_ne (by omega) hB), nI_1, if_pos i2, if_pos i2, if_pos i1, if_pos i1, nI_clamp (by omega), nI_clamp (by omega), h c (by omega), h (c + 1) (by omega), nI_l (by omega), nI_l (by omega), lN_mul, pk_lDiv (by omega) hB (by omega), lN_add, sL_n (show c ≠ c + 1 by omega), h c (by omega), lN_sub hm, em1]
theorem c_w37 {A B M N n v : Nat} (hM : M = 10) (hA : A ≤ B) (hB2 : B ≤ 100) (hn : n ≤ 8) (hv : v < 2 ^ 31) (hN : 20 < N) : ∀ m k t σ fu, k + m = n → m < fu → WI M t → h9 σ t → σ.1 59 4 = nI n → ∃ τ, m_X2_atLeastWith_37 N fu (nI v) (nI B) (nI A) (nI k) σ = some (lN (ta (wOut A B (nW B m) k t) (9 - v) v 0), τ) ∧ τ.1 = σ.1 ∧ (∀ c, c ≠ 62 → τ.2 c = σ.2 c) := by
  have fin : ∀ t σ, h9 σ t → m_X2_atLeastWith_122 N (nI v) σ = some (lN (ta t (9 - v) v 0), σ) := fun t σ h => by
    unfold m_X2_atLeastWith_122 g_lt
    have e : (if (0 : Int32) < nI v then nI v else 0) = nI v := by
      by_cases q : v = 0
      · rw [q]; rfl
      · rw [if_pos (show (0 : Int32) < nI v from a_lt (a := 0) v (by omega) hv)]
    rw [e]
    exact c_w132 h (9 - v) v 0 N (by omega) hv (by omega)
  intro m
  induction m with
  | zero =>
    intro k t σ fu hk hf hw h h4
    obtain ⟨fu, rfl⟩ : ∃ f, fu = f + 1 := ⟨fu - 1, by omega⟩
    refine ⟨σ, ?_, rfl, fun c _ => rfl⟩
    unfold m_X2_atLeastWith_37
    rw [h4, if_pos (a_le k (by omega) (by omega)), fin t σ h]
    unfold nW; rw [ite_self]; rfl
  | succ m ih =>
    intro k t σ fu hk hf hw h h4
    obtain ⟨fu, rfl⟩ : ∃ f, fu = f + 1 := ⟨fu - 1, by omega⟩
    by_cases h0 : B = 0
    · refine ⟨σ, ?_, rfl, fun c _ => rfl⟩
      unfold m_X2_atLeastWith_37
      rw [h4, if_neg (a_nle (a := n) k (by omega) (by omega)), if_neg (show ¬ (8 : Int32) ≤ nI k from a_nle (a := 8) k (by omega) (by omega)), h0, if_pos (show nI 0 ≤ (0 : Int32) by decide), fin t σ h]
      rfl
    · obtain ⟨x, x1, x2, x3, x4⟩ := c_w62 (N := N) (k := k) (a := nI v) (k37 := m_X2_atLeastWith_37 N fu) hM hA (by omega) hB2 (k + 1) t σ N hw h (by omega) (by omega)
      obtain ⟨τ, t1, t3, t4⟩ := ih (k + 1) (wIn A B (k + 1) t) x fu (by omega) (by omega) (WI_in hM hA (by omega) (k + 1) t (by omega) hw) x2 (by rw [x3]; exact h4)
      refine ⟨τ, ?_, t3.trans x3, fun c hc => (t4 c hc).trans (x4 c hc)⟩
      unfold nW at *
      rw [if_neg h0] at *
      show _ = some (lN (ta (wOut A B m (k + 1) (wIn A B (k + 1) t)) (9 - v) v 0), τ)
      rw [← t1, ← x1, nI_pred]
      conv => lhs; unfold m_X2_atLeastWith_37
      rw [h4, if_neg (a_nle (a := n) k (by omega) (by omega)), if_neg (show ¬ (8 : Int32) ≤ nI k from a_nle (a := 8) k (by omega) (by omega)), if_neg (nI_nle (by omega) (by omega))]
theorem c_atLeast {w : Tw} {N D M v n : Nat} {σ : g_St} (hw : TwOK w) (hD : D < 2 ^ tK w) (hFR : tR w = 1 → D = 2 ^ tK w - 1) (hM : M < 256) (hv : v < 2 ^ 31) (hn : n ≤ 8) (hN : 300 < N) (hT : CT w σ) (hC : CH w D n σ) : ∃ τ, m_X2_atLeast N (nI M) (nI v) σ = some (lN (OD w D M v n), τ) ∧ CH w D n τ ∧ τ.1 = σ.1 ∧ (∀ c, c ≠ 62 → τ.2 c = σ.2 c) := by
  have hK := hw.2.1
  have hp := pow8 hK
  have h5 := hT.2.2.2.1
  by_cases hR : tR w = 1
  · obtain ⟨m, hm⟩ : ∃ M, M = 10 := ⟨10, rfl⟩
    have hB := wsm_le (w := tW w) (S := 2 ^ tK w - 1) (b := 9) (tK w) (fun t ht => (hw.2.2.2.2.2.2.1 t ht).2)
    have hA := wsm_all (w := tW w) (S := M) hK
    obtain ⟨x, x1, x2, x3, x4⟩ := c_f62 (N := N) 9 0 N σ (by omega) (by omega) (fun y hy => by omega)
    have hx9 : h9 (g_sL x 62 0 1000000000) t0W := fun j hj => by
      unfold t0W
      by_cases q : j = 0
      · rw [q, sL_k, if_pos rfl]; rfl
      · rw [sL_n q, if_neg q]; exact x2 j hj
    have hT' : CT w (g_sL x 62 0 1000000000) := CT_k hT (fun c _ _ => by rw [sL_1, x3])
    obtain ⟨τ, t1, t3, t4⟩ := c_w37 (N := N) (A := wsm (tW w) M (tK w)) (B := wsm (tW w) (2 ^ tK w - 1) (tK w)) (n := n) (v := v) hm hA (by omega) hn hv (by omega) n 0 t0W (g_sL x 62 0 1000000000) N (by omega) (by omega) (WI_0 hm) hx9 (by rw [sL_1, x3]; exact hC.2.2 hR)
    refine ⟨τ, ?_, ?_, by rw [t3, sL_1, x3], fun c hc => by rw [t4 c hc, sL_o hc, x4 c hc]⟩
    · unfold m_X2_atLeast OD
      rw [h5, hR, if_neg (show ¬ nI 1 = 0 by decide), if_pos rfl]
      unfold m_X2_atLeastWith m_J7_fillL_62 g_lt
      rw [show (0 : Int32) = nI 0 from rfl, x1, Option.bind_some]
      dsimp only
      rw [sL_1, x3, hC.1, hFR hR, c_wt hT'.2.1 hK hT'.2.2.2.2.2 (all_lt hK) (by omega), Option.bind_some]
      dsimp only
      rw [c_wt hT'.2.1 hK hT'.2.2.2.2.2 hM (by omega), Option.bind_some]
      dsimp only
      rw [t1, Option.bind_some]
      rfl
    · unfold CH at *
      rw [t3, sL_1, x3, t4 60 (by omega), sL_o (by omega), x4 60 (by omega)]
      exact hC
  · have hR0 : tR w = 0 := by have := hw.2.2.2.2.1; omega
    obtain ⟨e, E, e0, e1, e2, e3⟩ := hC.2.1 hR0
    refine ⟨σ, ?_, hC, rfl, fun c _ => rfl⟩
    unfold m_X2_atLeast OD
    rw [h5, hR0, if_pos (show nI 0 = 0 from rfl), if_neg (by omega)]
    unfold m_X2_atLeastWithout
    have hl := c_alw (N := N) (M := M) (n := n) (w := w) (show D < 256 by omega) hv e0 hC.1 e1 e2 e 0 N (by omega) (by omega)
    rw [show (0 : Int64) = lN (sg 0 (fun i => if v ≤ pc8 (dmF D M (E i)) then qp (tW w) (tK w) D (E i) else 0)) from rfl, show (0 : Int32) = nI 0 from rfl, hl, Option.bind_some]
    dsimp only
    rw [e3 (fun x => if v ≤ pc8 (dmF D M x) then qp (tW w) (tK w) D x else 0), eF_oF hw hD]
theorem r_oddsOf {w : Tw} {N D M v n : Nat} {σ : g_St} (hw : TwOK w) (hD : D < 256) (hM : M < 256) (hv : v ≤ 8) (hn : n ≤ 8) (hN : 300 < N) (hT : RT w (σ.1 79)) : ∃ τ, m_X11_oddsOf N (nI M) (nI v) (nI n) (nI D) σ = some (nI (OD w D M v n), τ) ∧ (∀ c, c ≠ 83 → c ≠ 84 → c ≠ 85 → τ.1 c = σ.1 c) ∧ τ.2 = σ.2 := by
  have h3 := hT.2.2.2.1
  unfold m_X11_oddsOf OD
  by_cases hR : tR w = 1
  · obtain ⟨τ, t1, t2, t3⟩ := r_oddsWith (n := n) hw hM hv hn (show 20 < N by omega) hT
    refine ⟨τ, ?_, fun c c1 _ _ => t2 c c1, t3⟩
    rw [h3, hR, if_pos (show nI 1 = 1 from rfl), t1, Option.bind_some, if_pos rfl]
  · have hR0 : tR w = 0 := by have := hw.2.2.2.2.1; omega
    obtain ⟨τ, t1, t2, t3⟩ := r_oddsWithout (M := M) (v := v) (n := n) hw hD hv hn hN hT
    refine ⟨τ, ?_, fun c _ c1 c2 => t2 c c1 c2, t3⟩
    rw [h3, hR0, if_neg (show ¬ nI 0 = 1 by decide), t1, Option.bind_some, if_neg (by omega)]
theorem CC_ch {d : Dt} {σ τ : g_St} (h : CC d σ) (k : ∀ c, c < 59 ∨ (66 < c ∧ c < 71) ∨ c = 74 ∨ c = 75 → τ.1 c = σ.1 c) : CC d τ := by
  obtain ⟨⟨a1, a2, a3⟩, h2, h3, h4⟩ := h
  refine ⟨⟨CT_k a1 (fun c _ _ => k c (by omega)), CN_k a2 (fun c _ _ => k c (by omega)), ?_⟩, CCu_k h2 rfl rfl (fun c _ _ => k c (by omega)), CCk_k h3 rfl rfl (fun c _ _ => k c (by omega)), ?_⟩
  · rw [k 0 (by omega)]; exact a3
  · unfold CCs at *
    rw [k 67 (by omega), k 68 (by omega), k 69 (by omega), k 70 (by omega), k 74 (by omega), k 75 (by omega), k 0 (by omega), k 1 (by omega)]
    exact h4
theorem RR_fr {d : Dt} {σ τ : g_St} (h : RR d σ) (k : ∀ c, 77 ≤ c → c ≠ 83 → c ≠ 84 → c ≠ 85 → c ≠ 86 → c ≠ 87 → c ≠ 88 → τ.1 c = σ.1 c) : RR d τ := by
  unfold RR RRa RRu RRk RRs at *
  simp (disch := omega) only [k]
  exact h
abbrev ownS (d : Dt) (p : Nat) : Nat := setP (fun t => who (dN d) t == p) (tK (dT d))
