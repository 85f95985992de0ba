/-! the reference's clause and its town -/
theorem many_p {S : Sx} : manyS 112 S ↔ tP (sW S) = 6 := by unfold manyS; omega
theorem many_t {S : Sx} : manyS 116 S ↔ tK (sW S) = 8 := by unfold manyS; omega
theorem many_y {S : Sx} : manyS 121 S ↔ sYt S = 1 := by unfold manyS; omega
theorem many_r {S : Sx} : manyS 114 S ↔ sRt S = 1 := by unfold manyS; omega
theorem r_disp {x : Nat → Nat} {n N b : Nat} {S : Sx} {σ : g_St} (hn : n ≤ 250) (hN : 300 < N) (hx8 : ∀ i, i < n → x i < 256) (hb : b < n) (hb32 : x b ≠ 32) (hS : SOK S) (hL : LT x n σ) (hR : RS S σ) (hM : RM n (.inr b) σ) : ∃ y, ((manyS (x b) S → m_X11_clause N σ = m_X11_clause_80 N (nI (x b)) (nI b) y) ∧ (¬ manyS (x b) S → m_X11_clause N σ = m_X11_clause_86 N (nI (x b)) (nI b) y)) ∧ y.1 77 4 = nI b ∧ (∀ j, j ≠ 4 → y.1 77 j = σ.1 77 j) ∧ (∀ c, c ≠ 77 → y.1 c = σ.1 c) ∧ y.2 = σ.2 := by
  obtain ⟨m1, m2, m3, m4⟩ := hM
  obtain ⟨y, y1, y2, y3, y4, y5⟩ := r_here (N := N) hn hN hx8 m4 hL m1
  rw [skp_n (show ¬ (b < n ∧ x b = 32) from fun z => hb32 z.2)] at y1 y2
  rw [if_pos hb] at y1
  refine ⟨y, ?_, y2, y3, y4, y5⟩
  obtain ⟨⟨a1, a2, a3, a4⟩, a5, a6, a7, a8⟩ := hR
  obtain ⟨⟨w1, w2, _⟩, u1, u2, _, _⟩ := hS
  have b1 : y.1 78 0 = nI (tP (sW S)) := by rw [y4 78 (by omega)]; exact a1
  have b2 : y.1 78 1 = nI (tK (sW S)) := by rw [y4 78 (by omega)]; exact a2
  have b5 : y.1 78 4 = nI (sYt S + 2 * sRt S) := by rw [y4 78 (by omega)]; exact a5
  have hor := (yr_or (sYt S) (by omega) (sRt S) (by omega)).2.2
  have hxb := hx8 b hb
  unfold m_X11_clause m_X11_clause_27 m_X11_clause_44 m_X11_clause_62 g_lt
  rw [y1, Option.bind_some]
  dsimp only
  rw [y2, b1, b2, b5]
  by_cases c1 : x b = 112
  · rw [c1, many_p]
    rw [if_pos (show nI 112 = (112 : Int32) from rfl), if_neg (show ¬ nI 112 = (116 : Int32) by decide), if_neg (show ¬ nI 112 = (121 : Int32) by decide), if_neg (show ¬ nI 112 = (114 : Int32) by decide)]
    refine ⟨fun z => by rw [if_pos (show nI (tP (sW S)) = (6 : Int32) by rw [z]; rfl)], fun z => by rw [if_neg (show ¬ nI (tP (sW S)) = (6 : Int32) from a_ne 6 z (by omega) (by omega))]⟩
  · rw [if_neg (show ¬ nI (x b) = (112 : Int32) from a_ne 112 c1 (by omega) (by omega))]
    by_cases c2 : x b = 116
    · rw [c2, many_t]
      rw [if_pos (show nI 116 = (116 : Int32) from rfl), if_neg (show ¬ nI 116 = (121 : Int32) by decide), if_neg (show ¬ nI 116 = (114 : Int32) by decide)]
      refine ⟨fun z => by rw [if_pos (show nI (tK (sW S)) = (8 : Int32) by rw [z]; rfl)], fun z => by rw [if_neg (show ¬ nI (tK (sW S)) = (8 : Int32) from a_ne 8 z (by omega) (by omega))]⟩
    · rw [if_neg (show ¬ nI (x b) = (116 : Int32) from a_ne 116 c2 (by omega) (by omega))]
      by_cases c3 : x b = 121
      · rw [c3, many_y]
        rw [if_pos (show nI 121 = (121 : Int32) from rfl), if_neg (show ¬ nI 121 = (114 : Int32) by decide)]
        exact ⟨fun z => by rw [if_pos (hor.1.mpr z)], fun z => by rw [if_neg (fun q => z (hor.1.mp q))]⟩
      · rw [if_neg (show ¬ nI (x b) = (121 : Int32) from a_ne 121 c3 (by omega) (by omega))]
        by_cases c4 : x b = 114
        · rw [c4, many_r]
          rw [if_pos (show nI 114 = (114 : Int32) from rfl)]
          exact ⟨fun z => by rw [if_pos (hor.2.mpr z)], fun z => by rw [if_neg (fun q => z (hor.2.mp q))]⟩
        · rw [if_neg (show ¬ nI (x b) = (114 : Int32) from a_ne 114 c4 (by omega) (by omega))]
          exact ⟨fun z => by unfold manyS at z; omega, fun _ => rfl⟩
theorem r_86w {N c : Nat} {y : Int32} {σ : g_St} (hc : isW c) : m_X11_clause_86 N (nI c) y σ = m_X11_clause_116 N (nI c) σ := by
  unfold m_X11_clause_86
  rcases hc with e | e | e | e <;> subst e
  · rw [if_pos (show nI 112 = (112 : Int32) from rfl)]
  · rw [if_neg (show ¬ nI 116 = (112 : Int32) by decide), if_pos (show nI 116 = (116 : Int32) from rfl)]
  · rw [if_neg (show ¬ nI 121 = (112 : Int32) by decide), if_neg (show ¬ nI 121 = (116 : Int32) by decide), if_pos (show nI 121 = (121 : Int32) from rfl)]
  · rw [if_neg (show ¬ nI 114 = (112 : Int32) by decide), if_neg (show ¬ nI 114 = (116 : Int32) by decide), if_neg (show ¬ nI 114 = (121 : Int32) by decide), if_pos (show nI 114 = (114 : Int32) from rfl)]
theorem r_clause {x : Nat → Nat} {n N b : Nat} {S : Sx} {σ : g_St} (hn : n ≤ 250) (hN : 300 < N) (hx8 : ∀ i, i < n → x i < 256) (hb : b < n) (hb32 : x b ≠ 32) (hS : SOK S) (hL : LT x n σ) (hR : RS S σ) (hM : RM n (.inr b) σ) : ∃ τ, m_X11_clause N σ = some τ ∧ F8 σ τ ∧ (∀ q p, clS x n S b = .inl (q, p) → RM n (.inl (q, p)) τ) ∧ (∀ S' a', clS x n S b = .inr (S', a') → RM n (.inr a') τ ∧ RS S' τ ∧ SOK S' ∧ b < a') := by
  obtain ⟨y, ⟨d1, d2⟩, y2, y3, y4, y5⟩ := r_disp (N := N) hn hN hx8 hb hb32 hS hL hR hM
  have m2 : y.1 77 5 = 0 := by rw [y3 5 (by omega)]; exact hM.2.1
  have m3 : y.1 77 6 = -1 := by rw [y3 6 (by omega)]; exact hM.2.2.1
  have hF7 : F7 σ y := ⟨y4, fun j j1 _ _ => y3 j j1, y5⟩
  have hF : F8 σ y := F8_7 (F8_rf σ) hF7
  have hxb := hx8 b hb
  unfold clS
  by_cases hw : isW (x b)
  · rw [show (@ite (Sum (Nat × Nat) (Sx × Nat)) (isW (x b)) (Classical.propDecidable _) _ (.inl (1, b))) = _ from if_pos hw]
    by_cases hm : manyS (x b) S
    · rw [show (@ite (Sum (Nat × Nat) (Sx × Nat)) (manyS (x b) S) (Classical.propDecidable _) (.inl (3, b)) _) = _ from if_pos hm]
      refine ⟨g_sI (g_sI y 77 5 3) 77 6 (nI b), ?_, F8_7 (F8_rf σ) (F7_I (F7_I hF7 (by omega)) (by omega)), fun q p h => ?_, (fun S' a' h => by cases h)⟩
      · rw [d1 hm]
        unfold m_X11_clause_80
        rw [r_fault0 m2, Option.bind_some, r_86w hw, r_116f (by simp (disch := omega) only [sI_o, sI_k, sI_n, sA_o, sA_s, sI_2, sA_2, sL_1, sL_o]; decide)]
      · cases h
        exact ⟨by simp (disch := omega) only [sI_o, sI_k, sI_n, sA_o, sA_s, sI_2, sA_2, sL_1, sL_o]; rfl, by simp (disch := omega) only [sI_o, sI_k, sI_n, sA_o, sA_s, sI_2, sA_2, sL_1, sL_o], by omega, by omega⟩
    · rw [show (@ite (Sum (Nat × Nat) (Sx × Nat)) (manyS (x b) S) (Classical.propDecidable _) (.inl (3, b)) _) = _ from if_neg hm]
      have hRM : RM n (.inr (b + 1)) (g_sI y 77 4 (nI (b + 1))) := ⟨by simp (disch := omega) only [sI_o, sI_k, sI_n, sA_o, sA_s, sI_2, sA_2, sL_1, sL_o], by simp (disch := omega) only [sI_o, sI_k, sI_n, sA_o, sA_s, sI_2, sA_2, sL_1, sL_o]; exact m2, by simp (disch := omega) only [sI_o, sI_k, sI_n, sA_o, sA_s, sI_2, sA_2, sL_1, sL_o]; exact m3, by omega⟩
      have hF71 : F7 σ (g_sI y 77 4 (nI (b + 1))) := F7_I hF7 (by omega)
      have hL1 := LT_k hL hF71
      have hR1 : RS S (g_sI y 77 4 (nI (b + 1))) := by unfold RS at *; rw [sI_o (by omega), y4 78 (by omega)]; exact hR
      have pre : m_X11_clause N σ = (if nI (x b) = (112 : Int32) then ((m_X11_readPerson N (g_sI y 77 4 (nI (b + 1)))).bind fun σ12 => m_X11_clause_242 N σ12)
   else (if nI (x b) = (116 : Int32) then ((m_X11_readTicket N (g_sI y 77 4 (nI (b + 1)))).bind fun σ11 => m_X11_clause_242 N σ11)
   else (if nI (x b) = (121 : Int32) then ((m_X11_number N (1 : Int32) (8 : Int32) (g_sI y 77 4 (nI (b + 1)))).bind fun q6 => (g_lt (g_sI q6.2 78 2 q6.1) fun σ7 => ((m_X11_number N (0 : Int32) (1 : Int32) σ7).bind fun q8 => (g_lt (g_sI q8.2 78 3 q8.1) fun σ9 => (g_lt (g_sI σ9 78 4 ((σ9.1 78 4) ||| (1 : Int32))) fun σ10 => m_X11_clause_242 N σ10)))))
   else m_X11_clause_206 N N (0 : Int32) (g_sI y 77 4 (nI (b + 1)))))) := by
        rw [d2 hm, r_86w hw]
        unfold m_X11_clause_116
        rw [if_pos m2, y2, nI_1]
        rfl
      have hgo : ∃ τ, m_X11_clause N σ = m_X11_clause_242 N τ ∧ RM n (outM (nsC x n (x b) S (nOf (x b)) b)) τ ∧ F8 (g_sI y 77 4 (nI (b + 1))) τ ∧ (∀ g e, nsC x n (x b) S (nOf (x b)) b = .inr (g, e) → RS (addS (x b) g S) τ) := by
        rw [pre]
        rcases hw with e | e | e | e
        · rw [e] at hm ⊢
          obtain ⟨τ, t1, t2, t3, t4⟩ := r_person (N := N) hn hN hx8 hS (by rw [many_p] at hm; have := hS.1.1; omega) hL1 hR1 hRM
          refine ⟨τ, ?_, t2, t3, t4⟩
          rw [if_pos (show nI 112 = (112 : Int32) from rfl), t1, Option.bind_some]
        · rw [e] at hm ⊢
          obtain ⟨τ, t1, t2, t3, t4⟩ := r_ticket (N := N) hn hN hx8 hS (by rw [many_t] at hm; have := hS.1.2.1; omega) hL1 hR1 hRM
          refine ⟨τ, ?_, t2, t3, t4⟩
          rw [if_neg (show ¬ nI 116 = (112 : Int32) by decide), if_pos (show nI 116 = (116 : Int32) from rfl), t1, Option.bind_some]
        · rw [e] at hm ⊢
          obtain ⟨τ, t1, t2, t3, t4⟩ := r_year (N := N) hn hN hx8 hS hL1 hR1 hRM
          refine ⟨τ, ?_, t2, t3, t4⟩
          rw [if_neg (show ¬ nI 121 = (112 : Int32) by decide), if_neg (show ¬ nI 121 = (116 : Int32) by decide), if_pos (show nI 121 = (121 : Int32) from rfl)]
          exact t1
        · rw [e] at hm ⊢
          obtain ⟨τ, t1, t2, t3, t4⟩ := r_rights (N := N) (b := b) hn hN hx8 hS hR1 4 0 N _ (by omega) (by omega) (F8_rf _) hL1 hRM (fun j _ => rfl) (fun g e _ i hi => by omega)
          refine ⟨τ, ?_, t2, t3, t4⟩
          rw [if_neg (show ¬ nI 114 = (112 : Int32) by decide), if_neg (show ¬ nI 114 = (116 : Int32) by decide), if_neg (show ¬ nI 114 = (121 : Int32) by decide)]
          exact t1
      obtain ⟨z, z1, z2, z3, z4⟩ := hgo
      have hFz : F8 σ z := F8_tr (F8_7 (F8_rf σ) hF71) z3
      obtain ⟨τ, t1, t2, t3⟩ := r_242 (N := N) hn hN hx8 (LT_8 hL hFz) z2
      replace t2 : RM n (clM x n (outM (nsR x n (x b) (tP (sW S)) (nOf (x b)) 0 (b + 1) (fun _ => 0)))) τ := t2
      refine ⟨τ, by rw [z1, t1], F8_7 hFz t3, fun q p h => ?_, fun S' a' h => ?_⟩
      · cases hr : nsR x n (x b) (tP (sW S)) (nOf (x b)) 0 (b + 1) (fun _ => 0) with
        | inl w =>
          obtain ⟨q', p'⟩ := w
          rw [hr] at t2 h
          cases h
          exact t2
        | inr w =>
          obtain ⟨g, a⟩ := w
          rw [hr] at t2 h
          unfold outM clM at t2
          dsimp only at t2 h
          by_cases hc : skp x n a < n ∧ x (skp x n a) = 59
          · rw [if_pos hc] at h; cases h
          · rw [if_neg hc] at h t2
            cases h
            exact t2
      · cases hr : nsR x n (x b) (tP (sW S)) (nOf (x b)) 0 (b + 1) (fun _ => 0) with
        | inl w => rw [hr] at h; cases h
        | inr w =>
          obtain ⟨g, a⟩ := w
          have hRS := z4 g a hr
          obtain ⟨r1, r2, r3, r4⟩ := nsR_p _ _ _ _ _ _ (show b + 1 ≤ n by omega) hr
          obtain ⟨s1, s2, s3, s4⟩ := skp_p (x := x) (n := n) _ a (Nat.le_refl _) r2
          rw [hr] at t2 h
          unfold outM clM at t2
          dsimp only at t2 h
          by_cases hc : skp x n a < n ∧ x (skp x n a) = 59
          · rw [if_pos hc] at h t2
            cases h
            refine ⟨t2, ?_, addS_ok hS hw hm (fun i hi => r4 i (by omega) (by omega)), by omega⟩
            unfold RS at *
            rw [t3.1 78 (by omega)]
            exact hRS
          · rw [if_neg hc] at h; cases h
  · rw [show (@ite (Sum (Nat × Nat) (Sx × Nat)) (isW (x b)) (Classical.propDecidable _) _ (.inl (1, b))) = _ from if_neg hw]
    have hm : ¬ manyS (x b) S := fun z => hw (by unfold manyS at z; unfold isW; omega)
    refine ⟨g_sI (g_sI y 77 5 1) 77 6 (nI b), ?_, F8_7 (F8_rf σ) (F7_I (F7_I hF7 (by omega)) (by omega)), fun q p h => ?_, (fun S' a' h => by cases h)⟩
    · rw [d2 hm]
      unfold m_X11_clause_86
      unfold isW at hw
      rw [if_neg (show ¬ nI (x b) = (112 : Int32) from a_ne 112 (fun z => hw (by omega)) (by omega) (by omega)), if_neg (show ¬ nI (x b) = (116 : Int32) from a_ne 116 (fun z => hw (by omega)) (by omega) (by omega)), if_neg (show ¬ nI (x b) = (121 : Int32) from a_ne 121 (fun z => hw (by omega)) (by omega) (by omega)), if_neg (show ¬ nI (x b) = (114 : Int32) from a_ne 114 (fun z => hw (by omega)) (by omega) (by omega)), r_fault0 m2, Option.bind_some, r_116f (by simp (disch := omega) only [sI_o, sI_k, sI_n, sA_o, sA_s, sI_2, sA_2, sL_1, sL_o]; decide)]
    · cases h
      exact ⟨by simp (disch := omega) only [sI_o, sI_k, sI_n, sA_o, sA_s, sI_2, sA_2, sL_1, sL_o]; rfl, by simp (disch := omega) only [sI_o, sI_k, sI_n, sA_o, sA_s, sI_2, sA_2, sL_1, sL_o], by omega, by omega⟩
def T40 (n : Nat) : Sum (Nat × Nat) Sx → g_St → Prop
  | .inl (q, p), τ => RM n (.inl (q, p)) τ
  | .inr S, τ => τ.1 77 5 = 0 ∧ τ.1 77 6 = -1 ∧ RS S τ ∧ SOK S
theorem r_t19 {x : Nat → Nat} {n N : Nat} (hn : n ≤ 250) (hN : 300 < N) (hx8 : ∀ i, i < n → x i < 256) : ∀ m a S fu σ, n - a < m → m < fu → SOK S → LT x n σ → RS S σ → RM n (.inr a) σ → ∃ τ, m_X11_town_19 N fu σ = m_X11_town_40 N τ ∧ F8 σ τ ∧ T40 n (prs x n m a S) τ := by
  intro m
  induction m with
  | zero => intro a S fu σ h; omega
  | succ m ih =>
    intro a S fu σ h hf hS hL hR hM
    obtain ⟨fu, rfl⟩ : ∃ f, fu = f + 1 := ⟨fu - 1, by omega⟩
    obtain ⟨m1, m2, m3, m4⟩ := hM
    obtain ⟨s1, s2, s3, s4⟩ := skp_p (x := x) (n := n) _ a (Nat.le_refl _) m4
    obtain ⟨y, y1, y2, y3, y4, y5⟩ := r_here (N := N) hn hN hx8 m4 hL m1
    have hF7 : F7 σ y := ⟨y4, fun j j1 _ _ => y3 j j1, y5⟩
    have hRy : RS S y := by unfold RS at *; rw [y4 78 (by omega)]; exact hR
    have hy5 : y.1 77 5 = 0 := by rw [y3 5 (by omega)]; exact m2
    have hy6 : y.1 77 6 = -1 := by rw [y3 6 (by omega)]; exact m3
    unfold prs
    by_cases hb : skp x n a < n
    · rw [if_pos hb] at y1 ⊢
      obtain ⟨z, z1, z2, z3, z4⟩ := r_clause (N := N) hn hN hx8 hb (s3 hb) hS (LT_k hL hF7) hRy ⟨y2, hy5, hy6, s2⟩
      have e19 : m_X11_town_19 N (fu + 1) σ = m_X11_town_19 N fu z := by
        conv => lhs; unfold m_X11_town_19
        rw [if_pos m2, y1, Option.bind_some]
        dsimp only
        rw [if_neg (nI_pos (by have := hx8 _ hb; omega)), z1, Option.bind_some]
      have hFz : F8 σ z := F8_tr (F8_7 (F8_rf σ) hF7) z2
      rw [e19]
      cases hr : clS x n S (skp x n a) with
      | inl w =>
        obtain ⟨q, p⟩ := w
        have hz := z3 q p hr
        obtain ⟨fu, rfl⟩ : ∃ f, fu = f + 1 := ⟨fu - 1, by omega⟩
        refine ⟨z, ?_, hFz, hz⟩
        unfold m_X11_town_19
        rw [if_neg (by rw [hz.1]; exact nI_ne0 (by have := hz.2.2.1; omega) (by have := hz.2.2.2; omega))]
      | inr w =>
        obtain ⟨S', a'⟩ := w
        obtain ⟨w1, w2, w3, w4⟩ := z4 S' a' hr
        obtain ⟨τ, t1, t2, t3⟩ := ih a' S' fu z (by omega) (by omega) w3 (LT_8 hL hFz) w2 w1
        exact ⟨τ, t1, F8_tr hFz t2, t3⟩
    · rw [if_neg hb] at y1 ⊢
      refine ⟨y, ?_, F8_7 (F8_rf σ) hF7, hy5, hy6, hRy, hS⟩
      unfold m_X11_town_19
      rw [if_pos m2, y1, Option.bind_some]
      dsimp only
      rw [if_pos (show (-1 : Int32) < 0 by decide)]
