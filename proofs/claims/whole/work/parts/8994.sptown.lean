/-! town: the call -/
theorem num1_q {x : Nat → Nat} {n lo h1 a q p : Nat} (h : num1 x n lo h1 a = .inl (q, p)) : 1 ≤ q ∧ q ≤ 3 := by
  unfold num1 at h
  split at h
  · split at h
    · cases h
    · cases h; omega
  · cases h; omega
theorem nsR_q {x : Nat → Nat} {n c P : Nat} : ∀ j k a f q p, nsR x n c P j k a f = .inl (q, p) → 1 ≤ q ∧ q ≤ 3
  | 0, k, a, f, q, p, h => by cases h
  | j + 1, k, a, f, q, p, h => by
    unfold nsR at h
    cases hn : num1 x n (rlo c k) (rhi c P k) a with
    | inl z =>
      obtain ⟨q', p'⟩ := z
      rw [hn] at h
      cases h
      exact num1_q hn
    | inr z =>
      obtain ⟨v, e⟩ := z
      rw [hn] at h
      exact nsR_q j (k + 1) e _ q p h
theorem clS_q {x : Nat → Nat} {n b : Nat} {S : Sx} {q p : Nat} (h : clS x n S b = .inl (q, p)) : 1 ≤ q ∧ q ≤ 3 := by
  unfold clS at h
  by_cases hw : isW (x b)
  · rw [show (@ite (Sum (Nat × Nat) (Sx × Nat)) (isW (x b)) (Classical.propDecidable _) _ (.inl (1, b))) = _ from if_pos hw] at h
    by_cases hm : manyS (x b) S
    · rw [show (@ite (Sum (Nat × Nat) (Sx × Nat)) (manyS (x b) S) (Classical.propDecidable _) (.inl (3, b)) _) = _ from if_pos hm] at h
      cases h; omega
    · rw [show (@ite (Sum (Nat × Nat) (Sx × Nat)) (manyS (x b) S) (Classical.propDecidable _) (.inl (3, b)) _) = _ from if_neg hm] at h
      cases hr : nsR x n (x b) (tP (sW S)) (nOf (x b)) 0 (b + 1) (fun _ => 0) with
      | inl w =>
        obtain ⟨q', p'⟩ := w
        rw [hr] at h
        cases h
        exact nsR_q _ _ _ _ _ _ hr
      | inr w =>
        obtain ⟨g, a⟩ := w
        rw [hr] at h
        dsimp only at h
        by_cases hc : skp x n a < n ∧ x (skp x n a) = 59
        · rw [if_pos hc] at h; cases h
        · rw [if_neg hc] at h; cases h; omega
  · rw [show (@ite (Sum (Nat × Nat) (Sx × Nat)) (isW (x b)) (Classical.propDecidable _) _ (.inl (1, b))) = _ from if_neg hw] at h
    cases h; omega
theorem prs_q {x : Nat → Nat} {n : Nat} : ∀ m a S q p, prs x n m a S = .inl (q, p) → 1 ≤ q ∧ q ≤ 3
  | 0, a, S, q, p, h => by cases h
  | m + 1, a, S, q, p, h => by
    unfold prs at h
    by_cases hb : skp x n a < n
    · rw [if_pos hb] at h
      cases hr : clS x n S (skp x n a) with
      | inl w =>
        obtain ⟨q', p'⟩ := w
        rw [hr] at h
        cases h
        exact clS_q hr
      | inr w =>
        obtain ⟨S1, a1⟩ := w
        rw [hr] at h
        exact prs_q m a1 S1 q p h
    · rw [if_neg hb] at h
      cases h
def tA (τ : g_St) : g_St := g_sI (g_sI τ 0 12 0) 0 13 (τ.1 2 11)
def tB (τ : g_St) : g_St := g_sI (g_sI (g_sI (g_sI (g_sA (g_sA τ 14 (va_cpy (τ.1 4) (τ.1 14) 0 0 8)) 15 (va_cpy (τ.1 5) (τ.1 15) 0 0 4)) 13 2 (τ.1 3 2)) 13 3 (τ.1 3 3)) 13 4 (τ.1 3 4)) 13 5 (τ.1 3 5)
def tC (τ : g_St) : g_St := g_sI (g_sI (g_sI (g_sA (g_sA (g_sA (g_sA (g_sA τ 17 (va_cpy (τ.1 7) (τ.1 17) 0 0 6)) 18 (va_cpy (τ.1 8) (τ.1 18) 0 0 6)) 19 (va_cpy (τ.1 9) (τ.1 19) 0 0 8)) 20 (va_cpy (τ.1 10) (τ.1 20) 0 0 8)) 21 (va_cpy (τ.1 11) (τ.1 21) 0 0 8)) 16 5 (τ.1 6 5)) 16 6 (τ.1 6 6)) 16 7 (τ.1 6 7)
def tD (τ : g_St) : g_St := g_sI (g_sI (g_sI (g_sI (g_sI (g_sI τ 67 1 0) 69 4 0) 74 1 0) 22 1 0) 22 2 0) 54 2 0
theorem c_cp3 {τ : g_St} {R : Nat} (hR : R ≤ 1) (h : τ.1 3 5 = nI R) : m_X7_copyFrom_3 τ = some (tB τ) := by
  unfold m_X7_copyFrom_3 g_lt tB
  dsimp only
  simp (disch := omega) only [sI_o, sI_k, sI_n, sA_o, sA_s, sI_2, sA_2, sL_1, sL_o]
  rw [h]
  have : g_b01 (nI R) := by
    rcases (show R = 0 ∨ R = 1 by omega) with e | e <;> subst e <;> decide
  rw [if_pos this]
theorem c_cp6 {τ : g_St} : m_X4_copyFrom_6 τ = some (tC τ) := by
  unfold m_X4_copyFrom_6 g_lt tC
  dsimp only
  simp (disch := omega) only [sI_o, sI_k, sI_n, sA_o, sA_s, sI_2, sA_2, sL_1, sL_o]
theorem c_town {d : Dt} {N : Nat} {σ : g_St} (ok : OK d) (hN : 300 < N) (h : CC d σ) : ∃ τ, m_X10_town N σ = some (twR (twO d), τ) ∧ CC (twD d (twO d)) τ ∧ keepR σ τ := by
  have hn : ln d ≤ 250 := ok.2.2.2.2.2.2.2.2.1
  obtain ⟨⟨a1, a2, a3⟩, ⟨u1, nx, u2, u3, u4⟩, ⟨kb, ⟨k0, k66, k67⟩, k2, k3⟩, b1, b2, b3, b4, b5, b6, b7, b8, b9⟩ := h
  obtain ⟨s, s1, s2, s3, s4, s5⟩ := c_rbegin (N := N) (σ := σ) hN
  have hrun := run_prs (N := N) (n := ln d) (x := lx d) (σ0 := s) hn (lx_8 ok) (ln d + 1) 0 S0 (fun _ => 0) s (by omega) (by omega) S0_ok (fun i hi => by rw [s4 1 (by omega)]; exact b8 i hi) s2 (EF_rf s) N (by omega)
  have pre : m_X6_read_1 N (σ.1 0 12) σ = m_X6_read_1_6 N N (nI (ln d)) (nI 0) s := by
    unfold m_X6_read_1
    rw [s1, Option.bind_some, b7]
    rfl
  cases ho : twO d with
  | inl w =>
    obtain ⟨q, p⟩ := w
    have hq := prs_q _ _ _ _ _ ho
    have hrun' : Rs s (twO d) (m_X6_read_1_6 N N (nI (ln d)) (nI 0) s) := hrun
    rw [ho] at hrun'
    obtain ⟨τ, t1, t2, t3, t4, t5⟩ := hrun'
    have hk : ∀ c, (c < 2 ∨ 12 < c) → τ.1 c = σ.1 c := fun c hc => by rw [t3 c (by omega), s4 c (by omega)]
    have hk6 : ∀ j, j ≠ 5 → τ.1 6 j = σ.1 6 j := fun j hj => by rw [t4 j hj, s4 6 (by omega)]
    have hA : ∀ c, 12 < c → (tA τ).1 c = σ.1 c := fun c hc => by unfold tA; rw [sI_o (by omega), sI_o (by omega), hk c (by omega)]
    refine ⟨tA τ, ?_, ⟨⟨CT_k a1 (fun c c1 _ => hA c (by omega)), CN_k a2 (fun c c1 _ => hA c (by omega)), ?_⟩, CCu_k ⟨u1, nx, u2, u3, u4⟩ rfl rfl (fun c c1 _ => hA c (by omega)), ⟨kb, ⟨k0, ?_, ?_⟩, ?_, fun i hi => ⟨(k3 i hi).1, fun s' v hv => ?_⟩⟩, ?_, ?_, ?_, fun p' hp' hb' => ?_, ?_, ?_, ?_, fun i hi => absurd hi (Nat.not_lt_zero _), ?_⟩, fun c hc => ⟨hA c (by omega), by show τ.2 c = σ.2 c; rw [t5, s5]⟩⟩
    · unfold m_X10_town g_lt
      rw [pre, t1, Option.bind_some]
      dsimp only
      rw [if_neg (nI_ne0 (by omega) (by omega)), sI_o (by omega)]
      rfl
    · unfold tA; rw [sI_n (by omega), sI_n (by omega), hk 0 (by omega)]; exact a3
    · unfold tA; rw [sI_o (by omega), sI_o (by omega), hk6 6 (by omega)]; exact k66
    · unfold tA; rw [sI_o (by omega), sI_o (by omega), hk6 7 (by omega)]; exact k67
    · rw [hA 54 (by omega)]; exact k2
    · obtain ⟨e1, e2, e3⟩ := (k3 i hi).2 s' v hv
      rw [hA 58 (by omega), hA (56 + i) (by omega)]
      exact ⟨e1, e2, e3⟩
    · rw [hA 67 (by omega)]; exact b1
    · rw [hA 68 (by omega)]; exact b2
    · rw [hA 69 (by omega)]; exact b3
    · rw [hA 70 (by omega)]; exact b4 p' hp' hb'
    · rw [hA 74 (by omega)]; exact b5
    · rw [hA 75 (by omega)]; exact b6
    · unfold tA; rw [sI_n (by omega), sI_k]; rfl
    · unfold tA; rw [sI_k, t2]; rfl
  | inr S =>
    have hSok : SOK S := prs_ok _ _ _ _ S0_ok ho
    have hrun' : Rs s (twO d) (m_X6_read_1_6 N N (nI (ln d)) (nI 0) s) := hrun
    rw [ho] at hrun'
    obtain ⟨τ, t1, t2, ⟨⟨c1, c2, c3, c4⟩, _, c7, c8, c9⟩, t65, t3, t4, t5⟩ := hrun'
    have hK8 : tK (sW S) ≤ 8 := hSok.1.2.1
    have hP6 : tP (sW S) ≤ 6 := hSok.1.1
    have hk : ∀ c, (c < 2 ∨ 12 < c) → τ.1 c = σ.1 c := fun c hc => by rw [t3 c (by omega), s4 c (by omega)]
    have hk6 : ∀ j, j ≠ 5 → τ.1 6 j = σ.1 6 j := fun j hj => by rw [t4 j hj, s4 6 (by omega)]
    have h10 : ∀ t, t < 8 → τ.1 10 t = -1 := fun t ht => by rw [t3 10 (by omega)]; exact s3 t ht
    have eA : ∀ c, c ≠ 0 → (tA τ).1 c = τ.1 c := fun c hc => by unfold tA; rw [sI_o hc, sI_o hc]
    have eB : ∀ c, c ≠ 13 → c ≠ 14 → c ≠ 15 → (tB (tA τ)).1 c = (tA τ).1 c := fun c x1 x2 x3 => by unfold tB; simp (disch := omega) only [sI_o, sI_k, sI_n, sA_o, sA_s, sI_2, sA_2, sL_1, sL_o]
    have eC : ∀ c, c ≠ 16 → c ≠ 17 → c ≠ 18 → c ≠ 19 → c ≠ 20 → c ≠ 21 → (tC (tB (tA τ))).1 c = (tB (tA τ)).1 c := fun c x1 x2 x3 x4 x5 x6 => by unfold tC; simp (disch := omega) only [sI_o, sI_k, sI_n, sA_o, sA_s, sI_2, sA_2, sL_1, sL_o]
    have eD : ∀ c, c ≠ 67 → c ≠ 69 → c ≠ 74 → c ≠ 22 → c ≠ 54 → (tD (tC (tB (tA τ)))).1 c = (tC (tB (tA τ))).1 c := fun c x1 x2 x3 x4 x5 => by unfold tD; simp (disch := omega) only [sI_o, sI_k, sI_n, sA_o, sA_s, sI_2, sA_2, sL_1, sL_o]
    have eBl : ∀ c, c < 13 → c ≠ 0 → (tB (tA τ)).1 c = τ.1 c := fun c x1 x2 => by rw [eB c (by omega) (by omega) (by omega), eA c x2]
    refine ⟨tD (tC (tB (tA τ))), ?_, ⟨⟨⟨?_, ?_, ?_, ?_, fun r hr => ?_, fun t ht => ?_⟩, ⟨?_, ?_, ?_, fun p hp => ⟨?_, ?_⟩, fun t ht => ⟨?_, ?_, ?_⟩⟩, ?_⟩, ⟨?_, 0, by omega, ?_, fun i v hv => by cases hv⟩, ⟨0, ⟨by omega, ?_, ?_⟩, ?_, fun i hi => ⟨fun _ => bt_0 i, fun s' v hv => by cases hv⟩⟩, ?_, fun i hi => absurd hi (Nat.not_lt_zero _), ?_, fun p _ hb => ?_, ?_, fun i hi => absurd hi (Nat.not_lt_zero _), ?_, fun i hi => absurd hi (Nat.not_lt_zero _), ?_⟩, fun c hc => ⟨?_, ?_⟩⟩
    · unfold m_X10_town g_lt
      rw [pre, t1, Option.bind_some]
      dsimp only
      rw [if_pos rfl]
      have e0 : g_sI (g_sI τ 0 12 0) 0 13 ((g_sI τ 0 12 0).1 2 11) = tA τ := by unfold tA; rw [sI_o (by omega)]
      rw [e0, c_cp3 (R := tR (sW S)) hSok.1.2.2.2.2.1 (by rw [eA 3 (by omega)]; exact c4), Option.bind_some, c_cp6, Option.bind_some]
      have e13 : (tD (tC (tB (tA τ)))).1 13 2 = nI (tP (sW S)) := by
        rw [eD 13 (by omega) (by omega) (by omega) (by omega) (by omega), eC 13 (by omega) (by omega) (by omega) (by omega) (by omega) (by omega)]
        unfold tB; simp (disch := omega) only [sI_o, sI_k, sI_n, sA_o, sA_s, sI_2, sA_2, sL_1, sL_o]; rw [eA 3 (by omega)]; exact c1
      have eF : ∀ u, ((m_X10_forgetSeen u).bind fun σ7 => ((m_X5_clear σ7).bind fun σ8 => ((m_X3_clear σ8).bind fun σ9 => some ((σ9.1 13 2), σ9)))) = some ((tD u).1 13 2, tD u) := fun u => rfl
      rw [eF, e13]
      rfl
    · rw [eD 13 (by omega) (by omega) (by omega) (by omega) (by omega), eC 13 (by omega) (by omega) (by omega) (by omega) (by omega) (by omega)]
      unfold tB; simp (disch := omega) only [sI_o, sI_k, sI_n, sA_o, sA_s, sI_2, sA_2, sL_1, sL_o]; rw [eA 3 (by omega)]; exact c1
    · rw [eD 13 (by omega) (by omega) (by omega) (by omega) (by omega), eC 13 (by omega) (by omega) (by omega) (by omega) (by omega) (by omega)]
      unfold tB; simp (disch := omega) only [sI_o, sI_k, sI_n, sA_o, sA_s, sI_2, sA_2, sL_1, sL_o]; rw [eA 3 (by omega)]; exact c2
    · rw [eD 13 (by omega) (by omega) (by omega) (by omega) (by omega), eC 13 (by omega) (by omega) (by omega) (by omega) (by omega) (by omega)]
      unfold tB; simp (disch := omega) only [sI_o, sI_k, sI_n, sA_o, sA_s, sI_2, sA_2, sL_1, sL_o]; rw [eA 3 (by omega)]; exact c3
    · rw [eD 13 (by omega) (by omega) (by omega) (by omega) (by omega), eC 13 (by omega) (by omega) (by omega) (by omega) (by omega) (by omega)]
      unfold tB; simp (disch := omega) only [sI_o, sI_k, sI_n, sA_o, sA_s, sI_2, sA_2, sL_1, sL_o]; rw [eA 3 (by omega)]; exact c4
    · rw [eD 15 (by omega) (by omega) (by omega) (by omega) (by omega), eC 15 (by omega) (by omega) (by omega) (by omega) (by omega) (by omega)]
      unfold tB; simp (disch := omega) only [sI_o, sI_k, sI_n, sA_o, sA_s, sI_2, sA_2, sL_1, sL_o]; rw [pk_cpy_in (by omega) (by omega), show 0 + (r - 0) = r by omega, eA 5 (by omega)]; exact c7 r hr
    · have ht' : t < tK (sW S) := ht
      rw [eD 14 (by omega) (by omega) (by omega) (by omega) (by omega), eC 14 (by omega) (by omega) (by omega) (by omega) (by omega) (by omega)]
      unfold tB; simp (disch := omega) only [sI_o, sI_k, sI_n, sA_o, sA_s, sI_2, sA_2, sL_1, sL_o]; rw [pk_cpy_in (by omega) (by omega), show 0 + (t - 0) = t by omega, eA 4 (by omega)]; exact (c8 t ht').1
    · rw [eD 16 (by omega) (by omega) (by omega) (by omega) (by omega)]
      unfold tC; simp (disch := omega) only [sI_o, sI_k, sI_n, sA_o, sA_s, sI_2, sA_2, sL_1, sL_o]; rw [eBl 6 (by omega) (by omega), hk6 6 (by omega), k66]; rfl
    · rw [eD 16 (by omega) (by omega) (by omega) (by omega) (by omega)]
      unfold tC; simp (disch := omega) only [sI_o, sI_k, sI_n, sA_o, sA_s, sI_2, sA_2, sL_1, sL_o]; rw [eBl 6 (by omega) (by omega), hk6 7 (by omega), k67]; rfl
    · rw [eD 16 (by omega) (by omega) (by omega) (by omega) (by omega)]
      unfold tC; simp (disch := omega) only [sI_o, sI_k, sI_n, sA_o, sA_s, sI_2, sA_2, sL_1, sL_o]; rw [eBl 6 (by omega) (by omega), t65]; rfl
    · have hp' : p < tP (sW S) := hp
      rw [eD 17 (by omega) (by omega) (by omega) (by omega) (by omega)]
      unfold tC; simp (disch := omega) only [sI_o, sI_k, sI_n, sA_o, sA_s, sI_2, sA_2, sL_1, sL_o]; rw [pk_cpy_in (by omega) (by omega), show 0 + (p - 0) = p by omega, eBl 7 (by omega) (by omega)]; exact (c9 p hp').1
    · have hp' : p < tP (sW S) := hp
      rw [eD 18 (by omega) (by omega) (by omega) (by omega) (by omega)]
      unfold tC; simp (disch := omega) only [sI_o, sI_k, sI_n, sA_o, sA_s, sI_2, sA_2, sL_1, sL_o]; rw [pk_cpy_in (by omega) (by omega), show 0 + (p - 0) = p by omega, eBl 8 (by omega) (by omega)]; exact (c9 p hp').2
    · have ht' : t < tK (sW S) := ht
      rw [eD 19 (by omega) (by omega) (by omega) (by omega) (by omega)]
      unfold tC; simp (disch := omega) only [sI_o, sI_k, sI_n, sA_o, sA_s, sI_2, sA_2, sL_1, sL_o]; rw [pk_cpy_in (by omega) (by omega), show 0 + (t - 0) = t by omega, eBl 9 (by omega) (by omega)]; exact (c8 t ht').2.1
    · have ht' : t < tK (sW S) := ht
      rw [eD 20 (by omega) (by omega) (by omega) (by omega) (by omega)]
      unfold tC; simp (disch := omega) only [sI_o, sI_k, sI_n, sA_o, sA_s, sI_2, sA_2, sL_1, sL_o]; rw [pk_cpy_in (by omega) (by omega), show 0 + (t - 0) = t by omega, eBl 10 (by omega) (by omega)]; exact h10 t (by omega)
    · have ht' : t < tK (sW S) := ht
      rw [eD 21 (by omega) (by omega) (by omega) (by omega) (by omega)]
      unfold tC; simp (disch := omega) only [sI_o, sI_k, sI_n, sA_o, sA_s, sI_2, sA_2, sL_1, sL_o]; rw [pk_cpy_in (by omega) (by omega), show 0 + (t - 0) = t by omega, eBl 11 (by omega) (by omega)]; exact (c8 t ht').2.2
    · rw [eD 0 (by omega) (by omega) (by omega) (by omega) (by omega), eC 0 (by omega) (by omega) (by omega) (by omega) (by omega) (by omega), eB 0 (by omega) (by omega) (by omega)]
      unfold tA; rw [sI_n (by omega), sI_n (by omega), hk 0 (by omega)]; exact a3
    · unfold tD; simp (disch := omega) only [sI_o, sI_k, sI_n, sA_o, sA_s, sI_2, sA_2, sL_1, sL_o]; rfl
    · unfold tD; simp (disch := omega) only [sI_o, sI_k, sI_n, sA_o, sA_s, sI_2, sA_2, sL_1, sL_o]; rfl
    · rw [eD 6 (by omega) (by omega) (by omega) (by omega) (by omega), eC 6 (by omega) (by omega) (by omega) (by omega) (by omega) (by omega), eBl 6 (by omega) (by omega), hk6 6 (by omega)]; exact k66
    · rw [eD 6 (by omega) (by omega) (by omega) (by omega) (by omega), eC 6 (by omega) (by omega) (by omega) (by omega) (by omega) (by omega), eBl 6 (by omega) (by omega), hk6 7 (by omega)]; exact k67
    · unfold tD; simp (disch := omega) only [sI_o, sI_k, sI_n, sA_o, sA_s, sI_2, sA_2, sL_1, sL_o]; rfl
    · unfold tD; simp (disch := omega) only [sI_o, sI_k, sI_n, sA_o, sA_s, sI_2, sA_2, sL_1, sL_o]; rfl
    · unfold tD; simp (disch := omega) only [sI_o, sI_k, sI_n, sA_o, sA_s, sI_2, sA_2, sL_1, sL_o]; rfl
    · exact absurd hb (by show ¬ bt 0 p = true; rw [bt_0]; simp)
    · unfold tD; simp (disch := omega) only [sI_o, sI_k, sI_n, sA_o, sA_s, sI_2, sA_2, sL_1, sL_o]; rfl
    · rw [eD 0 (by omega) (by omega) (by omega) (by omega) (by omega), eC 0 (by omega) (by omega) (by omega) (by omega) (by omega) (by omega), eB 0 (by omega) (by omega) (by omega)]
      unfold tA; rw [sI_n (by omega), sI_k]; rfl
    · rw [eD 0 (by omega) (by omega) (by omega) (by omega) (by omega), eC 0 (by omega) (by omega) (by omega) (by omega) (by omega) (by omega), eB 0 (by omega) (by omega) (by omega)]
      unfold tA; rw [sI_k, t2]; rfl
    · rw [eD c (by omega) (by omega) (by omega) (by omega) (by omega), eC c (by omega) (by omega) (by omega) (by omega) (by omega) (by omega), eB c (by omega) (by omega) (by omega), eA c (by omega), hk c (by omega)]
    · show τ.2 c = σ.2 c
      rw [t5, s5]
theorem sp_town (N : Nat) (hN : 300 < N) : Sp (m_X10_town N) (m_X11_town N) := fun d ok =>
  ⟨twR (twO d), twD d (twO d), twD_ok ok (fun S hS => prs_ok _ _ _ _ S0_ok hS), fun σ h => c_town ok hN h, fun σ h => r_town ok hN h⟩
