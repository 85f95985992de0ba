/-! keep, goBack -/
abbrev dsK (d : Dt) (v : Nw) (s : Nat) (l : List Nw) (k : Nat → Option (Nat × Nw)) : Dt := ((d.1.1, v), (s, l, k), d.2.2)
theorem st1_4 : ∀ kb, kb < 4 → ∀ i, i < 2 → st1 kb i < 4 := by decide +kernel
theorem bt_4 : ∀ kb, kb < 4 → ∀ i, i < 2 → ∀ j, j < 2 → bt (st1 kb i) j = (bt kb j || i == j) := by decide +kernel
theorem r_keep40 {σ : g_St} {N i : Nat} (hN : 39 < N) (hi : i < 2) : m_X11_keep_40 N N (nI i) 0 σ = some (1, g_sI (cpS σ 92 81 (41 * i + 2) 0 0 39) 77 9 0) := by
  have h : ∀ d k fu σ, k + d = 39 → d < fu → m_X11_keep_40 N fu (nI i) (nI k) σ = some (1, g_sI (cpS σ 92 81 (41 * i + 2) 0 k 39) 77 9 0) := by
    intro d
    induction d with
    | zero =>
      intro k fu σ hk hf
      obtain ⟨fu, rfl⟩ : ∃ f, fu = f + 1 := ⟨fu - 1, by omega⟩
      unfold m_X11_keep_40 g_lt
      rw [if_pos (show (39 : Int32) ≤ nI k from a_le (a := 39) k (by omega) (by omega)), show k = 39 by omega, cpS_end]
    | succ d ih =>
      intro k fu σ hk hf
      obtain ⟨fu, rfl⟩ : ∃ f, fu = f + 1 := ⟨fu - 1, by omega⟩
      unfold m_X11_keep_40 g_lt
      have i1 : g_in (nI k) 39 := a_in (by omega) (by omega)
      have i2 : g_in (nI (41 * i + 2 + k)) 82 := a_in (by omega) (by omega)
      simp only [if_neg (show ¬ (39 : Int32) ≤ nI k from a_nle (a := 39) k (by omega) (by omega)), if_pos i1, e41, if_pos i2, nI_clamp (show k < 2 ^ 31 by omega), nI_clamp (show 41 * i + 2 + k < 2 ^ 31 by omega), nI_1]
      have e := cpS_step (σ := σ) (c := 92) (c' := 81) (o := 41 * i + 2) (o' := 0) (k := k) (n := 39) (by omega) (by omega)
      rw [Nat.zero_add] at e
      rw [ih (k + 1) fu _ (by omega) (by omega), e]
  exact h 39 0 N σ (by omega) hN
theorem r_goBack45 {σ : g_St} {N i : Nat} (hN : 39 < N) (hi : i < 2) : m_X11_goBack_45 N N (nI i) 0 σ = some (1, g_sI (cpS σ 81 92 0 (41 * i + 2) 0 39) 77 9 0) := by
  have h : ∀ d k fu σ, k + d = 39 → d < fu → m_X11_goBack_45 N fu (nI i) (nI k) σ = some (1, g_sI (cpS σ 81 92 0 (41 * i + 2) k 39) 77 9 0) := by
    intro d
    induction d with
    | zero =>
      intro k fu σ hk hf
      obtain ⟨fu, rfl⟩ : ∃ f, fu = f + 1 := ⟨fu - 1, by omega⟩
      unfold m_X11_goBack_45 g_lt
      rw [if_pos (show (39 : Int32) ≤ nI k from a_le (a := 39) k (by omega) (by omega)), show k = 39 by omega, cpS_end]
    | succ d ih =>
      intro k fu σ hk hf
      obtain ⟨fu, rfl⟩ : ∃ f, fu = f + 1 := ⟨fu - 1, by omega⟩
      unfold m_X11_goBack_45 g_lt
      have i1 : g_in (nI k) 39 := a_in (by omega) (by omega)
      have i2 : g_in (nI (41 * i + 2 + k)) 82 := a_in (by omega) (by omega)
      simp only [if_neg (show ¬ (39 : Int32) ≤ nI k from a_nle (a := 39) k (by omega) (by omega)), if_pos i1, e41, if_pos i2, nI_clamp (show k < 2 ^ 31 by omega), nI_clamp (show 41 * i + 2 + k < 2 ^ 31 by omega), nI_1]
      have e := cpS_step (σ := σ) (c := 81) (c' := 92) (o := 0) (o' := 41 * i + 2) (k := k) (n := 39) (by omega) (by omega)
      rw [Nat.zero_add] at e
      rw [ih (k + 1) fu _ (by omega) (by omega), e]
  exact h 39 0 N σ (by omega) hN
theorem e41a (i : Nat) : (41 : Int32) * nI i = nI (41 * i) := pk_mul (a := 41) (b := i)
theorem lt2 {x : Int32} (hx : ¬ (nI 0 ≤ x ∧ x ≤ nI 1)) : x < 0 ∨ (¬ x < 0 ∧ ¬ x < (2 : Int32)) := by
  by_cases q : x < 0
  · exact Or.inl q
  · refine Or.inr ⟨q, fun z => hx ⟨lt_nle q, ?_⟩⟩
    have h3 := Int32.lt_iff_toInt_lt.mp z
    rw [Int32.le_iff_toInt_le, nI_toInt (by omega)]
    have : (2 : Int32).toInt = 2 := by decide
    omega
set_option maxHeartbeats 1000000 in
theorem sp_keep (N : Nat) (hN : 39 < N) (x : Int32) : Sp (m_X10_keep x) (m_X11_keep N x) := by
  intro d ok
  have hw := ok.1
  have e0 : (0 : Int64) = (nI 0).toInt64 := by decide
  have e1 : (1 : Int64) = (nI 1).toInt64 := by decide
  rcases rng_cases x 0 1 (by omega) (by omega) with ⟨i, h1, h2, rfl⟩ | hx
  · have hi : i < 2 := by omega
    have hr : nI 0 ≤ nI i ∧ nI i ≤ nI 1 := ⟨a_le i h1 (by omega), a_le 1 h2 (by omega)⟩
    have i1 : g_in (nI i) 2 := a_in hi (by omega)
    obtain ⟨o1, o2, o3, o4, o5, o6⟩ := id ok
    refine ⟨1, dsK d (dN d) (dSeed d) [] (va_up (dK d) i (some (dSeed d, dN d))), ⟨o1, o2, ⟨o3.1, fun hr => ⟨(o3.2 hr).1, (fun u hu => by cases hu), fun j s v hj => ?_⟩⟩, ⟨Nat.zero_le 30, fun u hu => by cases hu⟩, fun j s v hj => ?_, o6⟩, fun σ h => ?_, fun σ h => ?_⟩
    · have hj' : va_up (dK d) i (some (dSeed d, dN d)) j = some (s, v) := hj
      by_cases e : j = i
      · subst e
        rw [g_up_s] at hj'
        cases hj'
        exact (o3.2 hr).1
      · rw [g_up_n _ _ e] at hj'
        exact (o3.2 hr).2.2 j s v hj'
    · have hj' : va_up (dK d) i (some (dSeed d, dN d)) j = some (s, v) := hj
      by_cases e : j = i
      · subst e
        rw [g_up_s] at hj'
        cases hj'
        exact ⟨o3.1, o2⟩
      · rw [g_up_n _ _ e] at hj'
        exact o5 j s v hj'
    · obtain ⟨⟨a1, a2, a3⟩, h2, ⟨kb, k1, k2, k3⟩, h4⟩ := h
      obtain ⟨y, y1, y2, y3, y4⟩ := c_pack (row := 56 + i) hw a2 (by omega)
      refine ⟨g_sI (g_sI (g_sI (g_sI y 58 i (nI (dSeed d))) 54 2 (nI (st1 kb i))) 22 1 0) 22 2 0, ?_, ⟨⟨CT_k a1 (fun c _ _ => ?_), CN_k a2 (fun c _ _ => ?_), ?_⟩, ⟨?_, 0, by omega, ?_, fun j v hv => by cases hv⟩, ⟨st1 kb i, ⟨st1_4 kb k1.1 i hi, by simp (disch := omega) only [sI_o, sI_k, sI_n, sA_o, sA_s, sI_2, sA_2, sL_1, sL_o]; rw [y3 6 (by omega)]; exact k1.2.1, by simp (disch := omega) only [sI_o, sI_k, sI_n, sA_o, sA_s, sI_2, sA_2, sL_1, sL_o]; rw [y3 6 (by omega)]; exact k1.2.2⟩, by simp (disch := omega) only [sI_o, sI_k, sI_n, sA_o, sA_s, sI_2, sA_2, sL_1, sL_o], fun j hj => ⟨fun hn => ?_, fun s v hv => ⟨?_, ?_, ?_⟩⟩⟩, ?_⟩, fun c hc => ⟨?_, ?_⟩⟩
      · unfold m_X10_keep m_X3_store m_X5_clear g_lt
        rw [if_neg (nI_pos (by omega)), if_pos (show nI i < (2 : Int32) from a_lt 2 hi (by omega)), if_pos i1, nI_clamp (by omega), y1, Option.bind_some, if_pos i1, a3]
        dsimp only
        rw [sI_o (by omega), y3 54 (by omega), k2, or1 (by omega) (by omega)]
        rfl
      · simp (disch := omega) only [sI_o, sI_k, sI_n, sA_o, sA_s, sI_2, sA_2, sL_1, sL_o]; exact y3 c (by omega)
      · simp (disch := omega) only [sI_o, sI_k, sI_n, sA_o, sA_s, sI_2, sA_2, sL_1, sL_o]; exact y3 c (by omega)
      · simp (disch := omega) only [sI_o, sI_k, sI_n, sA_o, sA_s, sI_2, sA_2, sL_1, sL_o]; rw [y3 0 (by omega)]; exact a3
      · simp (disch := omega) only [sI_o, sI_k, sI_n, sA_o, sA_s, sI_2, sA_2, sL_1, sL_o]; rfl
      · simp (disch := omega) only [sI_o, sI_k, sI_n, sA_o, sA_s, sI_2, sA_2, sL_1, sL_o]; rfl
      · have hn' : va_up (dK d) i (some (dSeed d, dN d)) j = none := hn
        by_cases e : j = i
        · subst e; rw [g_up_s] at hn'; cases hn'
        · rw [g_up_n _ _ e] at hn'
          rw [bt_4 kb k1.1 i hi j hj, (k3 j hj).1 hn']
          simp; omega
      · have hn' : va_up (dK d) i (some (dSeed d, dN d)) j = some (s, v) := hv
        rw [bt_4 kb k1.1 i hi j hj]
        by_cases e : j = i
        · subst e; simp
        · rw [g_up_n _ _ e] at hn'
          rw [((k3 j hj).2 s v hn').1]; rfl
      · have hn' : va_up (dK d) i (some (dSeed d, dN d)) j = some (s, v) := hv
        by_cases e : j = i
        · subst e; rw [g_up_s] at hn'; cases hn'; simp (disch := omega) only [sI_o, sI_k, sI_n, sA_o, sA_s, sI_2, sA_2, sL_1, sL_o]
        · rw [g_up_n _ _ e] at hn'
          simp (disch := omega) only [sI_o, sI_k, sI_n, sA_o, sA_s, sI_2, sA_2, sL_1, sL_o]
          rw [y3 58 (by omega)]
          exact ((k3 j hj).2 s v hn').2.1
      · have hn' : va_up (dK d) i (some (dSeed d, dN d)) j = some (s, v) := hv
        simp (disch := omega) only [sI_o, sI_k, sI_n, sA_o, sA_s, sI_2, sA_2, sL_1, sL_o]
        by_cases e : j = i
        · subst e; rw [g_up_s] at hn'; cases hn'; exact y2
        · rw [g_up_n _ _ e] at hn'
          rw [y3 (56 + j) (by omega)]
          exact ((k3 j hj).2 s v hn').2.2
      · unfold CCs at *
        simp (disch := omega) only [sI_o, sI_k, sI_n, sA_o, sA_s, sI_2, sA_2, sL_1, sL_o]
        rw [y3 67 (by omega), y3 68 (by omega), y3 69 (by omega), y3 70 (by omega), y3 74 (by omega), y3 75 (by omega), y3 0 (by omega), y3 1 (by omega)]
        exact h4
      · simp (disch := omega) only [sI_o, sI_k, sI_n, sA_o, sA_s, sI_2, sA_2, sL_1, sL_o]; exact y3 c (by omega)
      · simp (disch := omega) only [sI_o, sI_k, sI_n, sA_o, sA_s, sI_2, sA_2, sL_1, sL_o]; rw [y4]
    · obtain ⟨⟨a1, a2, a3⟩, h2, h3, h4⟩ := h
      have j1 : g_in (nI (41 * i)) 82 := a_in (by omega) (by omega)
      have j2 : g_in (nI (41 * i + 1)) 82 := a_in (by omega) (by omega)
      refine ⟨g_sI (cpS (g_sI (g_sI σ 92 (41 * i) 1) 92 (41 * i + 1) (nI (dSeed d))) 92 81 (41 * i + 2) 0 0 39) 77 9 0, ?_, ⟨⟨?_, ?_, ?_⟩, ⟨by simp (disch := omega) only [sI_o, sI_k, sI_n, sA_o, sA_s, sI_2, sA_2, sL_1, sL_o]; rfl, fun j v hv => by cases hv⟩, fun j hj => ⟨fun hn => ?_, fun s v hv => ?_⟩, ?_⟩, keepC_tr (keepC_tr (keepC_tr (keepC_I (by omega)) (keepC_I (by omega))) (keepC_cp (by omega))) (keepC_I (by omega))⟩
      · unfold m_X11_keep g_lt
        rw [e0, e1, r_inR, Option.bind_some]
        dsimp only
        rw [if_pos hr, if_neg n10, e41a, if_pos j1, nI_1, if_pos j2, nI_clamp (by omega), nI_clamp (by omega)]
        rw [sI_o (by omega), a3, r_keep40 hN hi]
      · rw [sI_o (by omega), cpS_o (by omega)]; simp (disch := omega) only [sI_o, sI_k, sI_n, sA_o, sA_s, sI_2, sA_2, sL_1, sL_o]; exact a1
      · rw [sI_o (by omega), cpS_o (by omega)]; simp (disch := omega) only [sI_o, sI_k, sI_n, sA_o, sA_s, sI_2, sA_2, sL_1, sL_o]; exact a2
      · rw [sI_n (by omega), cpS_o (by omega)]; simp (disch := omega) only [sI_o, sI_k, sI_n, sA_o, sA_s, sI_2, sA_2, sL_1, sL_o]; exact a3
      · have hn' : va_up (dK d) i (some (dSeed d, dN d)) j = none := hn
        by_cases e : j = i
        · subst e; rw [g_up_s] at hn'; cases hn'
        · rw [g_up_n _ _ e] at hn'
          rw [sI_o (by omega), cpS_n (by omega)]
          simp (disch := omega) only [sI_o, sI_k, sI_n, sA_o, sA_s, sI_2, sA_2, sL_1, sL_o]
          exact (h3 j hj).1 hn'
      · have hn' : va_up (dK d) i (some (dSeed d, dN d)) j = some (s, v) := hv
        rw [sI_o (by omega)]
        by_cases e : j = i
        · subst e
          rw [g_up_s] at hn'; cases hn'
          refine ⟨?_, ?_, ?_⟩
          · rw [cpS_n (by omega)]; simp (disch := omega) only [sI_o, sI_k, sI_n, sA_o, sA_s, sI_2, sA_2, sL_1, sL_o]
          · rw [cpS_n (by omega)]; simp (disch := omega) only [sI_o, sI_k, sI_n, sA_o, sA_s, sI_2, sA_2, sL_1, sL_o]
          · refine RN_ext hw a2 (fun k hk => ?_)
            rw [cpS_at hk]
            simp (disch := omega) only [sI_o, sI_k, sI_n, sA_o, sA_s, sI_2, sA_2, sL_1, sL_o]
            rw [Nat.zero_add]
        · rw [g_up_n _ _ e] at hn'
          obtain ⟨b1, b2, b3⟩ := (h3 j hj).2 s v hn'
          refine ⟨?_, ?_, ?_⟩
          · rw [cpS_n (by omega)]; simp (disch := omega) only [sI_o, sI_k, sI_n, sA_o, sA_s, sI_2, sA_2, sL_1, sL_o]; exact b1
          · rw [cpS_n (by omega)]; simp (disch := omega) only [sI_o, sI_k, sI_n, sA_o, sA_s, sI_2, sA_2, sL_1, sL_o]; exact b2
          · refine RN_ext hw b3 (fun k hk => ?_)
            rw [cpS_n (by omega)]
            simp (disch := omega) only [sI_o, sI_k, sI_n, sA_o, sA_s, sI_2, sA_2, sL_1, sL_o]
      · unfold RRs at *
        rw [sI_n (by omega), sI_n (by omega), sI_n (by omega), sI_n (by omega), sI_n (by omega), sI_o (by omega), sI_o (by omega), sI_o (by omega), sI_o (by omega), cpS_o (by omega), cpS_o (by omega), cpS_o (by omega), cpS_o (by omega), cpS_o (by omega)]
        simp (disch := omega) only [sI_o, sI_k, sI_n, sA_o, sA_s, sI_2, sA_2, sL_1, sL_o]
        exact h4
  · refine ⟨-1000000001, d, ok, fun σ h => ⟨σ, ?_, h, keepR_rf σ⟩, fun σ h => ⟨σ, ?_, h, keepC_rf σ⟩⟩
    · unfold m_X10_keep
      rcases lt2 hx with q | ⟨q, q2⟩
      · rw [if_pos q]
      · rw [if_neg q, if_neg q2]
    · unfold m_X11_keep
      rw [e0, e1, r_inR, Option.bind_some]
      dsimp only
      rw [if_neg hx, if_pos rfl]
set_option maxHeartbeats 1000000 in
theorem sp_goBack (N : Nat) (hN : 39 < N) (x : Int32) : Sp (m_X10_goBack x) (m_X11_goBack N x) := by
  intro d ok
  have hw := ok.1
  have e0 : (0 : Int64) = (nI 0).toInt64 := by decide
  have e1 : (1 : Int64) = (nI 1).toInt64 := by decide
  rcases rng_cases x 0 1 (by omega) (by omega) with ⟨i, h1, h2, rfl⟩ | hx
  · have hi : i < 2 := by omega
    have hr : nI 0 ≤ nI i ∧ nI i ≤ nI 1 := ⟨a_le i h1 (by omega), a_le 1 h2 (by omega)⟩
    have i1 : g_in (nI i) 2 := a_in hi (by omega)
    have j1 : g_in (nI (41 * i)) 82 := a_in (by omega) (by omega)
    have j2 : g_in (nI (41 * i + 1)) 82 := a_in (by omega) (by omega)
    have b1 : g_b01 1 := by decide
    have b0 : g_b01 0 := by decide
    cases hk : dK d i with
    | none =>
      refine ⟨-1000000003, d, ok, fun σ h => ⟨σ, ?_, h, keepR_rf σ⟩, fun σ h => ⟨σ, ?_, h, keepC_rf σ⟩⟩
      · obtain ⟨⟨a1, a2, a3⟩, h2, ⟨kb, k1, k2, k3⟩, h4⟩ := h
        unfold m_X10_goBack m_X3_has
        rw [if_neg (nI_pos (by omega)), if_pos (show nI i < (2 : Int32) from a_lt 2 hi (by omega)), k2, c_holds (by omega) (by omega), Option.bind_some]
        dsimp only
        rw [(k3 i hi).1 hk, if_neg Bool.false_ne_true, if_pos b0, Option.bind_some]
        dsimp only
        rw [if_pos rfl]
      · unfold m_X11_goBack
        rw [e0, e1, r_inR, Option.bind_some]
        dsimp only
        rw [if_pos hr, if_neg n10, e41a, if_pos j1, nI_clamp (by omega), (h.2.2.1 i hi).1 hk, if_pos rfl]
    | some sv =>
      obtain ⟨s, v⟩ := sv
      obtain ⟨o1, o2, o3, o4, o5, o6⟩ := id ok
      obtain ⟨s1, s2⟩ := o5 i s v hk
      refine ⟨1, dsK d v s [] (dK d), ⟨o1, s2, ⟨s1, fun hr => ⟨(o3.2 hr).2.2 i s v hk, (fun u hu => by cases hu), (o3.2 hr).2.2⟩⟩, ⟨Nat.zero_le 30, fun u hu => by cases hu⟩, o5, o6⟩, fun σ h => ?_, fun σ h => ?_⟩
      · obtain ⟨⟨a1, a2, a3⟩, h2, ⟨kb, k1, k2, k3⟩, h4⟩ := h
        obtain ⟨m1, m2, m3⟩ := (k3 i hi).2 s v hk
        obtain ⟨y, y1, y2, y3, y4⟩ := c_unpack (row := 56 + i) hw m3 (by omega)
        refine ⟨g_sI (g_sI (g_sI y 0 14 (nI s)) 22 1 0) 22 2 0, ?_, ⟨⟨CT_k a1 (fun c _ _ => ?_), CN_k y2 (fun c _ _ => by simp (disch := omega) only [sI_o, sI_k, sI_n, sA_o, sA_s, sI_2, sA_2, sL_1, sL_o]), by simp (disch := omega) only [sI_o, sI_k, sI_n, sA_o, sA_s, sI_2, sA_2, sL_1, sL_o]⟩, ⟨?_, 0, by omega, ?_, fun j v hv => by cases hv⟩, CCk_k ⟨kb, k1, k2, k3⟩ rfl rfl (fun c _ _ => ?_), ?_⟩, fun c hc => ⟨?_, ?_⟩⟩
        · unfold m_X10_goBack m_X3_has m_X3_restore m_X5_clear g_lt
          rw [if_neg (nI_pos (by omega)), if_pos (show nI i < (2 : Int32) from a_lt 2 hi (by omega)), k2, c_holds (by omega) (by omega), Option.bind_some]
          dsimp only
          rw [m1, if_pos rfl, if_pos b1, Option.bind_some]
          dsimp only
          rw [if_neg n10, if_pos i1, nI_clamp (by omega), y1, Option.bind_some, if_pos i1, y3 58 (by omega), m2]
          rfl
        · simp (disch := omega) only [sI_o, sI_k, sI_n, sA_o, sA_s, sI_2, sA_2, sL_1, sL_o]; exact y3 c (by omega)
        · simp (disch := omega) only [sI_o, sI_k, sI_n, sA_o, sA_s, sI_2, sA_2, sL_1, sL_o]; rfl
        · simp (disch := omega) only [sI_o, sI_k, sI_n, sA_o, sA_s, sI_2, sA_2, sL_1, sL_o]; rfl
        · simp (disch := omega) only [sI_o, sI_k, sI_n, sA_o, sA_s, sI_2, sA_2, sL_1, sL_o]; exact y3 c (by omega)
        · unfold CCs at *
          simp (disch := omega) only [sI_o, sI_k, sI_n, sA_o, sA_s, sI_2, sA_2, sL_1, sL_o]
          rw [y3 67 (by omega), y3 68 (by omega), y3 69 (by omega), y3 70 (by omega), y3 74 (by omega), y3 75 (by omega), y3 0 (by omega), y3 1 (by omega)]
          exact h4
        · simp (disch := omega) only [sI_o, sI_k, sI_n, sA_o, sA_s, sI_2, sA_2, sL_1, sL_o]; exact y3 c (by omega)
        · simp (disch := omega) only [sI_o, sI_k, sI_n, sA_o, sA_s, sI_2, sA_2, sL_1, sL_o]; rw [y4]
      · obtain ⟨⟨a1, a2, a3⟩, h2, h3, h4⟩ := h
        obtain ⟨m1, m2, m3⟩ := (h3 i hi).2 s v hk
        refine ⟨g_sI (cpS (g_sI σ 77 8 (nI s)) 81 92 0 (41 * i + 2) 0 39) 77 9 0, ?_, ⟨⟨?_, ?_, ?_⟩, ⟨by simp (disch := omega) only [sI_o, sI_k, sI_n, sA_o, sA_s, sI_2, sA_2, sL_1, sL_o]; rfl, fun j v hv => by cases hv⟩, ?_, ?_⟩, keepC_tr (keepC_tr (keepC_I (by omega)) (keepC_cp (by omega))) (keepC_I (by omega))⟩
        · unfold m_X11_goBack g_lt
          rw [e0, e1, r_inR, Option.bind_some]
          dsimp only
          rw [if_pos hr, if_neg n10, e41a, if_pos j1, nI_clamp (show 41 * i < 2 ^ 31 by omega), m1, if_neg n10, nI_1, if_pos j2, nI_clamp (by omega), m2, r_goBack45 hN hi]
        · rw [sI_o (by omega), cpS_o (by omega)]; simp (disch := omega) only [sI_o, sI_k, sI_n, sA_o, sA_s, sI_2, sA_2, sL_1, sL_o]; exact a1
        · rw [sI_o (by omega)]
          refine RN_ext hw m3 (fun k hk => ?_)
          have e := cpS_at (σ := g_sI σ 77 8 (nI s)) (c := 81) (c' := 92) (o := 0) (o' := 41 * i + 2) (n := 39) hk
          rw [Nat.zero_add] at e
          rw [e]
          simp (disch := omega) only [sI_o, sI_k, sI_n, sA_o, sA_s, sI_2, sA_2, sL_1, sL_o]
        · rw [sI_n (by omega), cpS_o (by omega)]; simp (disch := omega) only [sI_o, sI_k, sI_n, sA_o, sA_s, sI_2, sA_2, sL_1, sL_o]
        · exact RRk_k h3 rfl rfl (by rw [sI_o (by omega), cpS_o (by omega)]; simp (disch := omega) only [sI_o, sI_k, sI_n, sA_o, sA_s, sI_2, sA_2, sL_1, sL_o])
        · unfold RRs at *
          rw [sI_n (by omega), sI_n (by omega), sI_n (by omega), sI_n (by omega), sI_n (by omega), sI_o (by omega), sI_o (by omega), sI_o (by omega), sI_o (by omega), cpS_o (by omega), cpS_o (by omega), cpS_o (by omega), cpS_o (by omega), cpS_o (by omega)]
          simp (disch := omega) only [sI_o, sI_k, sI_n, sA_o, sA_s, sI_2, sA_2, sL_1, sL_o]
          exact h4
  · refine ⟨-1000000001, d, ok, fun σ h => ⟨σ, ?_, h, keepR_rf σ⟩, fun σ h => ⟨σ, ?_, h, keepC_rf σ⟩⟩
    · unfold m_X10_goBack
      rcases lt2 hx with q | ⟨q, q2⟩
      · rw [if_pos q]
      · rw [if_neg q, if_neg q2]
    · unfold m_X11_goBack
      rw [e0, e1, r_inR, Option.bind_some]
      dsimp only
      rw [if_neg hx, if_pos rfl]
