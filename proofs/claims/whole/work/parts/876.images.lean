/-! undo, keep, goBack -/
theorem rng_cases (x : Int32) (lo hi : Nat) (h : hi + 1 < 2 ^ 31) (hlo : lo < 2 ^ 31) : (∃ k, lo ≤ k ∧ k ≤ hi ∧ x = nI k) ∨ (¬ (nI lo ≤ x ∧ x ≤ nI hi)) := by
  rcases i_cases x (hi + 1) (by omega) with ⟨k, hk, rfl⟩ | hx
  · by_cases hl : lo ≤ k
    · exact Or.inl ⟨k, hl, by omega, rfl⟩
    · exact Or.inr (fun q => a_nle (a := lo) k (by omega) (by omega) q.1)
  · refine Or.inr (fun q => ?_)
    rcases hx with z | z
    · have h3 := Int32.lt_iff_toInt_lt.mp z
      have h4 := Int32.le_iff_toInt_le.mp q.1
      rw [nI_toInt hlo] at h4
      have : (0 : Int32).toInt = 0 := by decide
      omega
    · exact out_hi (n := hi) (by omega) z q.2
theorem r_inR (x : Int32) (lo hi : Nat) (σ : g_St) : m_X11_in x.toInt64 (nI lo).toInt64 (nI hi).toInt64 σ = some (if nI lo ≤ x ∧ x ≤ nI hi then 1 else 0, σ) := r_in x (nI lo) (nI hi) σ
theorem lt_nle {x y : Int32} (h : ¬ x < y) : y ≤ x := Int32.not_lt.mp h
theorem r_undo38 {σ : g_St} {N u : Nat} (hN : 39 < N) (hu : u < 30) (h9 : σ.1 77 9 = nI u) : m_X11_undo_38 N N 0 σ = some ((cpS σ 81 82 0 (39 * u) 0 39).1 81 0, cpS σ 81 82 0 (39 * u) 0 39) := by
  have h : ∀ d k fu σ, σ.1 77 9 = nI u → k + d = 39 → d < fu → m_X11_undo_38 N fu (nI k) σ = some ((cpS σ 81 82 0 (39 * u) k 39).1 81 0, cpS σ 81 82 0 (39 * u) k 39) := by
    intro d
    induction d with
    | zero =>
      intro k fu σ h9 hk hf
      obtain ⟨fu, rfl⟩ : ∃ f, fu = f + 1 := ⟨fu - 1, by omega⟩
      unfold m_X11_undo_38
      rw [if_pos (show (39 : Int32) ≤ nI k from a_le (a := 39) k (by omega) (by omega)), show k = 39 by omega, cpS_end]
    | succ d ih =>
      intro k fu σ h9 hk hf
      obtain ⟨fu, rfl⟩ : ∃ f, fu = f + 1 := ⟨fu - 1, by omega⟩
      unfold m_X11_undo_38 g_lt
      have i1 : g_in (nI k) 39 := a_in (by omega) (by omega)
      have i2 : g_in (nI (39 * u + k)) 1170 := a_in (by omega) (by omega)
      simp only [if_neg (show ¬ (39 : Int32) ≤ nI k from a_nle (a := 39) k (by omega) (by omega)), if_pos i1, h9, e39, if_pos i2, nI_clamp (show k < 2 ^ 31 by omega), nI_clamp (show 39 * u + k < 2 ^ 31 by omega), nI_1]
      have e := cpS_step (σ := σ) (c := 81) (c' := 82) (o := 0) (o' := 39 * u) (k := k) (n := 39) (by omega) (by omega)
      rw [Nat.zero_add] at e
      rw [ih (k + 1) fu _ (by simp (disch := omega) only [sI_o, sI_k, sI_n, sA_o, sA_s, sI_2, sA_2, sL_1, sL_o]; exact h9) (by omega) (by omega), e]
  exact h 39 0 N σ h9 (by omega) hN
set_option maxHeartbeats 1000000 in
theorem sp_undo (N : Nat) (hN : 39 < N) (x : Int32) : Sp (m_X10_undo x) (m_X11_undo N x) := by
  intro d ok
  have hw := ok.1
  have hl := ok.2.2.2.1.1
  have e1 : (1 : Int64) = (nI 1).toInt64 := by decide
  have e30 : (30 : Int64) = (nI 30).toInt64 := by decide
  rcases rng_cases x 1 30 (by omega) (by omega) with ⟨k, h1, h2, rfl⟩ | hx
  · have hr : nI 1 ≤ nI k ∧ nI k ≤ nI 30 := ⟨a_le k h1 (by omega), a_le 30 h2 (by omega)⟩
    have q1 : ¬ nI k < (1 : Int32) := a_nlt 1 h1 (by omega)
    have q2 : nI k ≤ (30 : Int32) := hr.2
    by_cases hk : k ≤ (dU d).length
    · obtain ⟨v, hv⟩ : ∃ v, (dU d)[(dU d).length - k]? = some v := ⟨_, List.getElem?_eq_getElem (by omega)⟩
      have hvok := ok.2.2.2.1.2 v (List.mem_of_getElem? hv)
      have q3 : nI k ≤ nI (dU d).length := a_le _ hk (by omega)
      have htk : ((dU d).take ((dU d).length - k)).length = (dU d).length - k := by rw [List.length_take]; omega
      obtain ⟨o1, o2, o3, o4, o5⟩ := id ok
      refine ⟨nI (nY v), dsU d v ((dU d).take ((dU d).length - k)), ⟨o1, hvok, ⟨o3.1, fun hr => ⟨(o3.2 hr).2.1 v (List.mem_of_getElem? hv), fun u hu => (o3.2 hr).2.1 u (List.mem_of_mem_take hu), (o3.2 hr).2.2⟩⟩, ⟨by show ((dU d).take ((dU d).length - k)).length ≤ 30; omega, fun u hu => o4.2 u (List.mem_of_mem_take hu)⟩, o5⟩, fun σ h => ?_, fun σ h => ?_⟩
      · obtain ⟨⟨a1, a2, a3⟩, ⟨b1, nx, n1, n2, n3⟩, h3, h4⟩ := h
        have hrow := n3 _ v hv
        have erow : (nx + 30 - (dU d).length + ((dU d).length - k)) % 30 = (nx + 30 - k) % 30 := by omega
        rw [erow] at hrow
        have em : (nI nx + (30 : Int32)) - nI k = nI (nx + 30 - k) := by
          show (nI nx + nI 30) - nI k = _
          rw [nI_add, pk_sub (by omega)]
        obtain ⟨τ, t1, t2, t3, t4⟩ := c_unpack (σ := g_sI (g_sI σ 22 1 (nI ((nx + 30 - k) % 30))) 22 2 (nI ((dU d).length - k))) (row := 24 + (nx + 30 - k) % 30) hw (by simp (disch := omega) only [sI_o, sI_k, sI_n, sA_o, sA_s, sI_2, sA_2, sL_1, sL_o]; exact hrow) (by omega)
        have hko : ∀ c, (c < 16 ∨ 23 ≤ c) → τ.1 c = σ.1 c := fun c hc => by rw [t3 c (by omega)]; simp (disch := omega) only [sI_o, sI_k, sI_n, sA_o, sA_s, sI_2, sA_2, sL_1, sL_o]
        refine ⟨τ, ?_, ⟨⟨CT_k a1 (fun c _ _ => hko c (by omega)), t2, (by rw [hko 0 (by omega)]; exact a3)⟩, ⟨?_, (nx + 30 - k) % 30, by omega, ?_, fun i u hu => ?_⟩, CCk_k h3 rfl rfl (fun c _ _ => hko c (by omega)), ?_⟩, fun c hc => ⟨hko c (by omega), by rw [t4]; rfl⟩⟩
        · unfold m_X10_undo m_X5_takeBack g_lt
          rw [if_neg q1, if_pos q2, b1, if_pos q3, if_neg q1, if_pos q3, n2, em, rem30 (by omega)]
          simp (disch := omega) only [sI_o, sI_k, sI_n, sA_o, sA_s, sI_2, sA_2, sL_1, sL_o]
          rw [b1, pk_sub hk, if_pos (a_in (by omega) (by omega)), nI_clamp (by omega), t1, Option.bind_some, Option.bind_some, t2.1]
        · rw [t3 22 (by omega), sI_k, htk]
        · rw [t3 22 (by omega)]; simp (disch := omega) only [sI_o, sI_k, sI_n, sA_o, sA_s, sI_2, sA_2, sL_1, sL_o]
        · have hu' : ((dU d).take ((dU d).length - k))[i]? = some u := hu
          rw [List.getElem?_take] at hu'
          have hi : i < (dU d).length - k := by
            by_cases q : i < (dU d).length - k
            · exact q
            · rw [if_neg q] at hu'; cases hu'
          rw [if_pos hi] at hu'
          have hv2 := n3 i u hu'
          have hlen : (dU (dsU d v ((dU d).take ((dU d).length - k)))).length = (dU d).length - k := htk
          rw [hlen, show ((nx + 30 - k) % 30 + 30 - ((dU d).length - k) + i) % 30 = (nx + 30 - (dU d).length + i) % 30 by omega, hko _ (by omega)]
          exact hv2
        · unfold CCs at *
          rw [hko 67 (by omega), hko 68 (by omega), hko 69 (by omega), hko 70 (by omega), hko 74 (by omega), hko 75 (by omega), hko 0 (by omega), hko 1 (by omega)]
          exact h4
      · obtain ⟨⟨a1, a2, a3⟩, ⟨b1, b2⟩, h3, h4⟩ := h
        have hrow := b2 _ v hv
        refine ⟨cpS (g_sI σ 77 9 (nI ((dU d).length - k))) 81 82 0 (39 * ((dU d).length - k)) 0 39, ?_, ⟨⟨?_, ?_, ?_⟩, ⟨?_, fun i u hu => ?_⟩, ?_, ?_⟩, keepC_tr (keepC_I (by omega)) (keepC_cp (by omega))⟩
        · unfold m_X11_undo g_lt
          rw [e1, e30, r_inR, Option.bind_some]
          dsimp only
          rw [if_pos hr, if_neg n10, b1, if_pos q3, pk_sub hk, r_undo38 (u := (dU d).length - k) hN (by omega) sI_k]
          have e0 := cpS_at (σ := g_sI σ 77 9 (nI ((dU d).length - k))) (c := 81) (c' := 82) (o := 0) (o' := 39 * ((dU d).length - k)) (n := 39) (j := 0) (by omega)
          rw [Nat.zero_add] at e0
          rw [e0]
          simp (disch := omega) only [sI_o, sI_k, sI_n, sA_o, sA_s, sI_2, sA_2, sL_1, sL_o]
          have h0 : σ.1 82 (39 * ((dU d).length - k) + 0) = nI (nY v) := hrow.1
          rw [h0]
        · rw [cpS_o (by omega)]; simp (disch := omega) only [sI_o, sI_k, sI_n, sA_o, sA_s, sI_2, sA_2, sL_1, sL_o]; exact a1
        · refine RN_ext hw hrow (fun j hj => ?_)
          have e0 := cpS_at (σ := g_sI σ 77 9 (nI ((dU d).length - k))) (c := 81) (c' := 82) (o := 0) (o' := 39 * ((dU d).length - k)) (n := 39) (j := j) hj
          rw [Nat.zero_add] at e0
          rw [e0]
          simp (disch := omega) only [sI_o, sI_k, sI_n, sA_o, sA_s, sI_2, sA_2, sL_1, sL_o]
        · rw [cpS_o (by omega)]; simp (disch := omega) only [sI_o, sI_k, sI_n, sA_o, sA_s, sI_2, sA_2, sL_1, sL_o]; exact a3
        · rw [cpS_o (by omega), sI_k, htk]
        · have hu' : ((dU d).take ((dU d).length - k))[i]? = some u := hu
          rw [List.getElem?_take] at hu'
          have hi : i < (dU d).length - k := by
            by_cases q : i < (dU d).length - k
            · exact q
            · rw [if_neg q] at hu'; cases hu'
          rw [if_pos hi] at hu'
          rw [cpS_o (by omega)]
          simp (disch := omega) only [sI_o, sI_k, sI_n, sA_o, sA_s, sI_2, sA_2, sL_1, sL_o]
          exact b2 i u hu'
        · exact RRk_k h3 rfl rfl (by rw [cpS_o (by omega)]; simp (disch := omega) only [sI_o, sI_k, sI_n, sA_o, sA_s, sI_2, sA_2, sL_1, sL_o])
        · unfold RRs at *
          rw [cpS_o (by omega), cpS_o (by omega), cpS_o (by omega), cpS_o (by omega), cpS_o (by omega)]
          simp (disch := omega) only [sI_o, sI_k, sI_n, sA_o, sA_s, sI_2, sA_2, sL_1, sL_o]
          exact h4
    · have q3 : ¬ nI k ≤ nI (dU d).length := a_nle _ (by omega) (by omega)
      refine ⟨-1000000003, d, ok, fun σ h => ⟨σ, ?_, h, keepR_rf σ⟩, fun σ h => ⟨σ, ?_, h, keepC_rf σ⟩⟩
      · unfold m_X10_undo
        rw [if_neg q1, if_pos q2, h.2.1.1, if_neg q3]
      · unfold m_X11_undo
        rw [e1, e30, r_inR, Option.bind_some]
        dsimp only
        rw [if_pos hr, if_neg n10, h.2.1.1, if_neg q3]
  · refine ⟨-1000000002, d, ok, fun σ h => ⟨σ, ?_, h, keepR_rf σ⟩, fun σ h => ⟨σ, ?_, h, keepC_rf σ⟩⟩
    · unfold m_X10_undo
      by_cases q : x < (1 : Int32)
      · rw [if_pos q]
      · rw [if_neg q, if_neg (show ¬ x ≤ (30 : Int32) from fun z => hx ⟨lt_nle q, z⟩)]
    · unfold m_X11_undo
      rw [e1, e30, r_inR, Option.bind_some]
      dsimp only
      rw [if_neg hx, if_pos rfl]
