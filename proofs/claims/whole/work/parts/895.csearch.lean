/-! the class's search -/
def SS (D : Nat → Nat) : Nat → Nat
  | 0 => 0
  | k + 1 => st1 (SS D k) (D k)
theorem st1_256 : ∀ S, S < 256 → ∀ t, t < 8 → st1 S t < 256 := by decide +kernel
theorem SS_lt {D : Nat → Nat} : ∀ k, (∀ i, i < k → D i < 8) → SS D k < 256
  | 0, _ => by show 0 < 256; omega
  | k + 1, h => st1_256 _ (SS_lt k (fun i hi => h i (by omega))) _ (h k (by omega))
theorem SS_c {D E : Nat → Nat} : ∀ k, (∀ i, i < k → D i = E i) → SS D k = SS E k
  | 0, _ => rfl
  | k + 1, h => by
    show st1 (SS D k) (D k) = st1 (SS E k) (E k)
    rw [SS_c k (fun i hi => h i (by omega)), h k (by omega)]
/-- digit i of a row of k draws -/
def dK2 (K k r i : Nat) : Nat := r / K ^ (k - 1 - i) % K
theorem dK2_s {K k r t i : Nat} (ht : t < K) (hi : i < k) : dK2 K (k + 1) (r * K + t) i = dK2 K k r i := by
  unfold dK2
  rw [show k + 1 - 1 - i = k - 1 - i + 1 by omega, Nat.pow_succ, Nat.mul_comm (K ^ (k - 1 - i)) K, ← Nat.div_div_eq_div_mul, dk1 ht]
theorem dK2_n {K k r t : Nat} (ht : t < K) : dK2 K (k + 1) (r * K + t) k = t := by
  unfold dK2
  rw [show k + 1 - 1 - k = 0 by omega, Nat.pow_zero, Nat.div_one, dk2 ht]
theorem dK2_lt {K k r i : Nat} (hK : 0 < K) : dK2 K k r i < K := Nat.mod_lt _ hK
def XI (d : Dt) (m : Nat) (v : Nw) (σ : g_St) : Prop := (CT (dT d) σ ∧ CN (dT d) (dN d) σ) ∧ σ.1 69 4 = nI (dLit d) ∧ (∀ p, p < tP (dT d) → bt (dLit d) p = true → σ.1 70 p = nI (dTold d p)) ∧ (∀ p, p < tP (dT d) → σ.1 71 p = nI (nA v p)) ∧ σ.1 69 7 = nI m
def AI (d : Dt) (m : Nat) (A : Ac) (σ : g_St) : Prop := σ.1 69 5 = nI A.1 ∧ σ.1 69 6 = nI A.2.2 ∧ (A.1 ≠ 0 → ∀ i, i < m → σ.1 73 i = nI (dK2 (tK (dT d)) m A.2.1 i))
def RI (d : Dt) (k r s : Nat) (σ : g_St) : Prop := (∀ i, i < k → σ.1 72 i = nI (dK2 (tK (dT d)) k r i)) ∧ s = SS (dK2 (tK (dT d)) k r) k
theorem c_note35 {d : Dt} {m r N : Nat} {σ : g_St} (ok : OK d) (hK : 0 < tK (dT d)) (hm : m ≤ 4) (h7 : σ.1 69 7 = nI m) (h72 : ∀ i, i < m → σ.1 72 i = nI (dK2 (tK (dT d)) m r i)) : ∀ j i fu, i + j = m → j < fu → m_X1_noteRow_35 N fu (nI (SS (dK2 (tK (dT d)) m r) i)) (nI i) σ = some (g_sI σ 69 6 (σ.1 69 6 &&& nI (SS (dK2 (tK (dT d)) m r) m))) := by
  have hK8 : tK (dT d) ≤ 8 := ok.1.2.1
  intro j
  induction j with
  | zero =>
    intro i fu hi hf
    obtain ⟨fu, rfl⟩ : ∃ f, fu = f + 1 := ⟨fu - 1, by omega⟩
    unfold m_X1_noteRow_35 g_lt
    rw [h7, if_pos (a_le i (by omega) (by omega)), show i = m by omega]
  | succ j ih =>
    intro i fu hi hf
    obtain ⟨fu, rfl⟩ : ∃ f, fu = f + 1 := ⟨fu - 1, by omega⟩
    have hlt : ∀ i, dK2 (tK (dT d)) m r i < 8 := fun i => by have := dK2_lt (K := tK (dT d)) (k := m) (r := r) (i := i) hK; omega
    unfold m_X1_noteRow_35 g_lt
    rw [h7, if_neg (a_nle (a := m) i (by omega) (by omega)), if_pos (a_in (by omega) (by omega)), nI_clamp (by omega), h72 i (by omega), or1 (SS_lt i (fun i _ => hlt i)) (hlt i), nI_1]
    exact ih (i + 1) fu (by omega) (by omega)
theorem c_note {d : Dt} {m r s N : Nat} {A : Ac} {v : Nw} {σ : g_St} (ok : OK d) (hK : 0 < tK (dT d)) (hm : m ≤ 4) (hN : 8 < N) (hA1 : A.1 < 10000) (hX : XI d m v σ) (hA : AI d m A σ) (hR : RI d m r s σ) : ∃ τ, m_X1_noteRow N σ = some τ ∧ AI d m (nt A r s) τ ∧ (∀ c, c ≠ 69 → c ≠ 73 → τ.1 c = σ.1 c) ∧ (∀ j, j ≠ 5 → j ≠ 6 → τ.1 69 j = σ.1 69 j) ∧ τ.2 = σ.2 := by
  obtain ⟨r1, r2⟩ := hR
  have fin : ∀ σ0 : g_St, (∀ c, c ≠ 73 → σ0.1 c = σ.1 c) → σ0.2 = σ.2 → (A.1 = 0 → ∀ i, i < m → σ0.1 73 i = nI (dK2 (tK (dT d)) m r i)) → (A.1 ≠ 0 → σ0.1 73 = σ.1 73) → ∃ τ, m_X1_noteRow_21 N σ0 = some τ ∧ AI d m (nt A r s) τ ∧ (∀ c, c ≠ 69 → c ≠ 73 → τ.1 c = σ.1 c) ∧ (∀ j, j ≠ 5 → j ≠ 6 → τ.1 69 j = σ.1 69 j) ∧ τ.2 = σ.2 := fun σ0 e1 e2 e3 e4 => by
    have h5 : σ0.1 69 5 = nI A.1 := by rw [e1 69 (by omega)]; exact hA.1
    have hl := c_note35 (N := N) (r := r) (m := m) (σ := g_sI σ0 69 5 (nI (A.1 + 1))) ok hK hm (by rw [sI_n (by omega), e1 69 (by omega)]; exact hX.2.2.2.2) (fun i hi => by rw [sI_o (by omega), e1 72 (by omega)]; exact r1 i hi) m 0 N (by omega) (by omega)
    refine ⟨g_sI (g_sI σ0 69 5 (nI (A.1 + 1))) 69 6 ((g_sI σ0 69 5 (nI (A.1 + 1))).1 69 6 &&& nI (SS (dK2 (tK (dT d)) m r) m)), ?_, ⟨?_, ?_, fun _ i hi => ?_⟩, fun c c1 c2 => by rw [sI_o c1, sI_o c1, e1 c c2], fun j j1 j2 => by rw [sI_n j2, sI_n j1, e1 69 (by omega)], by rw [sI_2, sI_2, e2]⟩
    · unfold m_X1_noteRow_21 g_lt
      rw [h5, nI_1]
      exact hl
    · rw [sI_n (by omega), sI_k]; rfl
    · rw [sI_k, sI_n (by omega), e1 69 (by omega), hA.2.1, nI_and, ← r2]; rfl
    · rw [sI_o (by omega), sI_o (by omega)]
      unfold nt
      dsimp only
      by_cases z : A.1 = 0
      · rw [if_pos z]; exact e3 z i hi
      · rw [if_neg z, e4 z]; exact hA.2.2 z i hi
  unfold m_X1_noteRow g_lt
  rw [hA.1]
  by_cases z : A.1 = 0
  · rw [z, if_pos (show nI 0 = 0 from rfl)]
    refine fin _ (fun c hc => sA_o hc) rfl (fun _ i hi => ?_) (fun q => absurd z q)
    rw [sA_s, pk_cpy_in (by omega) (by omega), show 0 + (i - 0) = i by omega]
    exact r1 i hi
  · rw [if_neg (nI_ne0 (by omega) (by omega))]
    exact fin σ (fun c _ => rfl) rfl (fun q => absurd q z) (fun _ => rfl)
theorem ms_bd {d : Dt} (ok : OK d) (v : Nw) : msV (tP (dT d)) (dLit d) (dTold d) v ≤ 999 * tP (dT d) := by
  have hT := ok.2.2.2.2.2.2.1.2
  unfold msV
  have : ∀ n, n ≤ tP (dT d) → sg n (fun p => if bt (dLit d) p = true then dTold d p - nA v p else 0) ≤ 999 * n := by
    intro n
    induction n with
    | zero => intro _; exact Nat.le_refl _
    | succ n ih =>
      intro hn
      have h1 := ih (by omega)
      have h2 := hT n (by omega)
      rw [sg_s]
      split <;> omega
  exact this _ (Nat.le_refl _)
theorem lit_lt {d : Dt} (ok : OK d) : dLit d < 256 := by
  have h1 := ok.2.2.2.2.2.2.1.1
  have h2 := pow8 (show tP (dT d) ≤ 8 by have := ok.1.1; omega)
  omega
def XR (σ τ : g_St) (P k : Nat) : Prop := (∀ c, c ≠ 69 → c ≠ 71 → c ≠ 72 → c ≠ 73 → τ.1 c = σ.1 c) ∧ (∀ j, j ≠ 5 → j ≠ 6 → τ.1 69 j = σ.1 69 j) ∧ (∀ p, p < P → τ.1 71 p = σ.1 71 p) ∧ (∀ i, i < k → τ.1 72 i = σ.1 72 i) ∧ τ.2 = σ.2
theorem XR_rf (σ : g_St) (P k : Nat) : XR σ σ P k := ⟨fun _ _ _ _ _ => rfl, fun _ _ _ => rfl, fun _ _ => rfl, fun _ _ => rfl, rfl⟩
theorem XR_tr {σ τ υ : g_St} {P k : Nat} (h1 : XR σ τ P k) (h2 : XR τ υ P k) : XR σ υ P k := ⟨fun c a b e f => (h2.1 c a b e f).trans (h1.1 c a b e f), fun j a b => (h2.2.1 j a b).trans (h1.2.1 j a b), fun p hp => (h2.2.2.1 p hp).trans (h1.2.2.1 p hp), fun i hi => (h2.2.2.2.1 i hi).trans (h1.2.2.2.1 i hi), h2.2.2.2.2.trans h1.2.2.2.2⟩
theorem XI_k {d : Dt} {m k : Nat} {v : Nw} {σ τ : g_St} (h : XI d m v σ) (k1 : XR σ τ (tP (dT d)) k) : XI d m v τ := by
  obtain ⟨⟨a1, a2⟩, a3, a4, a5, a6⟩ := h
  refine ⟨⟨CT_k a1 (fun c _ _ => k1.1 c (by omega) (by omega) (by omega) (by omega)), CN_k a2 (fun c _ _ => k1.1 c (by omega) (by omega) (by omega) (by omega))⟩, by rw [k1.2.1 4 (by omega) (by omega)]; exact a3, fun p hp hb => by rw [k1.1 70 (by omega) (by omega) (by omega) (by omega)]; exact a4 p hp hb, fun p hp => by rw [k1.2.2.1 p hp]; exact a5 p hp, by rw [k1.2.1 7 (by omega) (by omega)]; exact a6⟩
set_option maxHeartbeats 1000000 in
theorem c_ext {d : Dt} {m N : Nat} (ok : OK d) (hK : 0 < tK (dT d)) (hm : m ≤ 4) (hN : 8 < N) : ∀ j k v r s A σ fu, k + j = m → j < fu → NwO (dT d) v → (∀ t, who v t = who (dN d) t) → leV (tP (dT d)) (dLit d) (dTold d) v → A.1 + tK (dT d) ^ j ≤ 9000 → XI d m v σ → AI d m A σ → RI d k r s σ → ∃ τ, m_X1_extend N fu (nI k) (nI (nS v)) (nI (nD v)) (nI (msV (tP (dT d)) (dLit d) (dTold d) v)) σ = some τ ∧ AI d m (dfs (dT d) (dLit d) (dTold d) j v r s A) τ ∧ XR σ τ (tP (dT d)) k := by
  have hK8 : tK (dT d) ≤ 8 := ok.1.2.1
  have hP6 : tP (dT d) ≤ 6 := ok.1.1
  have hp8 := pow8 hK8
  have hlit := lit_lt ok
  intro j
  induction j with
  | zero =>
    intro k v r s A σ fu hk hf hv hwho hle hA1 hX hA hR
    obtain ⟨fu, rfl⟩ : ∃ f, fu = f + 1 := ⟨fu - 1, by omega⟩
    have hkm : k = m := by omega
    subst hkm
    have hmb := ms_bd ok v
    rw [Nat.pow_zero] at hA1
    unfold m_X1_extend m_X1_extend_0
    rw [hX.2.2.2.2, pk_sub (Nat.le_refl _), Nat.sub_self]
    by_cases h0 : msV (tP (dT d)) (dLit d) (dTold d) v = 0
    · rw [h0, if_pos (show nI 0 ≤ nI 0 from a_le 0 (Nat.le_refl _) (by omega)), if_pos (a_le k (Nat.le_refl _) (by omega))]
      obtain ⟨τ, t1, t2, t3, t4, t5⟩ := c_note (N := N) ok hK hm hN (by omega) hX hA hR
      refine ⟨τ, ?_, ?_, fun c c1 _ _ c4 => t3 c c1 c4, t4, fun p hp => by rw [t3 71 (by omega) (by omega)], fun i hi => by rw [t3 72 (by omega) (by omega)], t5⟩
      · unfold m_X1_extend_25
        rw [t1, Option.bind_some]
      · show AI d k (lf (tP (dT d)) (dLit d) (dTold d) v A r s) τ
        rw [lf_t (ms_fit hle h0)]
        exact t2
    · rw [if_neg (a_nle (a := msV (tP (dT d)) (dLit d) (dTold d) v) 0 (by omega) (by omega))]
      refine ⟨σ, rfl, ?_, XR_rf _ _ _⟩
      rw [dfs_2 0 v r s A (by omega)]
      exact hA
  | succ j ih =>
    intro k v r s A σ fu hk hf hv hwho hle hA1 hX hA hR
    obtain ⟨fu, rfl⟩ : ∃ f, fu = f + 1 := ⟨fu - 1, by omega⟩
    have hmb := ms_bd ok v
    have hS : nS v < 256 := Nat.lt_of_lt_of_le hv.2.1 hp8
    -- the walk over the tickets
    have loop : ∀ n t A' σ' fu', t + n = tK (dT d) → n < fu' → A'.1 + n * tK (dT d) ^ j ≤ 9000 → XI d m v σ' → AI d m A' σ' → RI d k r s σ' → ∃ τ, m_X1_extend_33 (m_X1_extend N fu) N fu' (nI k) (nI (nS v)) (nI (nD v)) (nI (msV (tP (dT d)) (dLit d) (dTold d) v)) (nI t) σ' = some τ ∧ AI d m (fd (fun t B => if bt (nS v) t = true then dfs (dT d) (dLit d) (dTold d) j (drawn (dT d) (tR (dT d)) v t) (r * tK (dT d) + t) (st1 s t) B else B) n t A') τ ∧ XR σ' τ (tP (dT d)) k := by
      intro n
      induction n with
      | zero =>
        intro t A' σ' fu' ht hf' hA1' hX' hA' hR'
        obtain ⟨fu', rfl⟩ : ∃ f, fu' = f + 1 := ⟨fu' - 1, by omega⟩
        refine ⟨σ', ?_, hA', XR_rf _ _ _⟩
        unfold m_X1_extend_33
        rw [hX'.1.1.2.1, if_pos (a_le t (by omega) (by omega))]
      | succ n ihn =>
        intro t A' σ' fu' ht hf' hA1' hX' hA' hR'
        obtain ⟨fu', rfl⟩ : ∃ f, fu' = f + 1 := ⟨fu' - 1, by omega⟩
        rw [Nat.succ_mul] at hA1'
        have htK : t < tK (dT d) := by omega
        have hq := NwO_who hv htK
        have hqa := (hv.2.2.2.1 _ hq).1
        have hag := aged_ge (nA v (who v t))
        have hage := aged_le hqa
        have hw0 : m_X4_whoAges (nI t) σ' = some (nI (who v t), σ') := by rw [c_whoO ok.1 ok.2.1.o hX'.1.2 htK, hwho]
        have skip : dfs (dT d) (dLit d) (dTold d) j (drawn (dT d) (tR (dT d)) v t) (r * tK (dT d) + t) (st1 s t) A' = A' ∨ ¬ bt (nS v) t = true → ∃ τ, m_X1_extend_33 (m_X1_extend N fu) N fu' (nI k) (nI (nS v)) (nI (nD v)) (nI (msV (tP (dT d)) (dLit d) (dTold d) v)) (nI (t + 1)) σ' = some τ ∧ AI d m (fd (fun t B => if bt (nS v) t = true then dfs (dT d) (dLit d) (dTold d) j (drawn (dT d) (tR (dT d)) v t) (r * tK (dT d) + t) (st1 s t) B else B) (n + 1) t A') τ ∧ XR σ' τ (tP (dT d)) k := fun e => by
          rw [fd_s]
          try dsimp only
          have e2 : (if bt (nS v) t = true then dfs (dT d) (dLit d) (dTold d) j (drawn (dT d) (tR (dT d)) v t) (r * tK (dT d) + t) (st1 s t) A' else A') = A' := by
            rcases e with e | e
            · rw [e, ite_self]
            · rw [if_neg e]
          rw [e2]
          exact ihn (t + 1) A' σ' fu' (by omega) (by omega) (by omega) hX' hA' hR'
        by_cases hb : bt (nS v) t = true
        · have hgo : (bt (dLit d) (who v t) = true → aged (nA v (who v t)) ≤ dTold d (who v t)) → ∀ x, x = msV (tP (dT d)) (dLit d) (dTold d) (drawn (dT d) (tR (dT d)) v t) → ∃ τ, m_X1_extend_164 (m_X1_extend N fu) (m_X1_extend_33 (m_X1_extend N fu) N fu') N (nI k) (nI (nS v)) (nI (nD v)) (nI (msV (tP (dT d)) (dLit d) (dTold d) v)) (nI t) (nI (who v t)) (nI (nA v (who v t))) (nI (aged (nA v (who v t)))) (nI (nS (drawn (dT d) (tR (dT d)) v t))) (nI (nD (drawn (dT d) (tR (dT d)) v t))) (nI x) σ' = some τ ∧ AI d m (fd (fun t B => if bt (nS v) t = true then dfs (dT d) (dLit d) (dTold d) j (drawn (dT d) (tR (dT d)) v t) (r * tK (dT d) + t) (st1 s t) B else B) (n + 1) t A') τ ∧ XR σ' τ (tP (dT d)) k := fun hok x hx => by
            subst hx
            have hX1 : XI d m (drawn (dT d) (tR (dT d)) v t) (g_sI (g_sI σ' 72 k (nI t)) 71 (who v t) (nI (aged (nA v (who v t))))) := by
              obtain ⟨⟨a1, a2⟩, a3, a4, a5, a6⟩ := hX'
              refine ⟨⟨CT_k a1 (fun c _ _ => by simp (disch := omega) only [sI_o, sI_k, sI_n, sA_o, sA_s, sI_2, sA_2, sL_1, sL_o]), CN_k a2 (fun c _ _ => by simp (disch := omega) only [sI_o, sI_k, sI_n, sA_o, sA_s, sI_2, sA_2, sL_1, sL_o])⟩, by simp (disch := omega) only [sI_o, sI_k, sI_n, sA_o, sA_s, sI_2, sA_2, sL_1, sL_o]; exact a3, fun p hp hb => by simp (disch := omega) only [sI_o, sI_k, sI_n, sA_o, sA_s, sI_2, sA_2, sL_1, sL_o]; exact a4 p hp hb, fun p hp => ?_, by simp (disch := omega) only [sI_o, sI_k, sI_n, sA_o, sA_s, sI_2, sA_2, sL_1, sL_o]; exact a6⟩
              rw [nA_dr]
              by_cases e : p = who v t
              · rw [if_pos e, e, sI_k]
              · rw [if_neg e, sI_n e]; simp (disch := omega) only [sI_o, sI_k, sI_n, sA_o, sA_s, sI_2, sA_2, sL_1, sL_o]; exact a5 p hp
            have hA1'' : AI d m A' (g_sI (g_sI σ' 72 k (nI t)) 71 (who v t) (nI (aged (nA v (who v t))))) := by
              unfold AI at *
              rw [sI_o (by omega), sI_o (by omega), sI_o (by omega), sI_o (by omega)]; exact hA'
            have hR1 : RI d (k + 1) (r * tK (dT d) + t) (st1 s t) (g_sI (g_sI σ' 72 k (nI t)) 71 (who v t) (nI (aged (nA v (who v t))))) := by
              refine ⟨fun i hi => ?_, ?_⟩
              · rw [sI_o (by omega)]
                by_cases e : i = k
                · rw [e, sI_k, dK2_n htK]
                · rw [sI_n e, dK2_s htK (by omega)]; exact hR'.1 i (by omega)
              · show st1 s t = st1 (SS (dK2 (tK (dT d)) (k + 1) (r * tK (dT d) + t)) k) (dK2 (tK (dT d)) (k + 1) (r * tK (dT d) + t) k)
                rw [dK2_n htK, SS_c (E := dK2 (tK (dT d)) k r) k (fun i hi => dK2_s htK hi), ← hR'.2]
            obtain ⟨y, y1, y2, y3⟩ := ih (k + 1) (drawn (dT d) (tR (dT d)) v t) (r * tK (dT d) + t) (st1 s t) A' _ fu (by omega) (by omega) (drawn_ok ok.1 hv htK) (fun u => hwho u) (le_dr hle hok) (by omega) hX1 hA1'' hR1
            have hXR : XR σ' (g_sI y 71 (who v t) (nI (nA v (who v t)))) (tP (dT d)) k := by
              refine ⟨fun c c1 c2 c3 c4 => by rw [sI_o c2, y3.1 c c1 c2 c3 c4]; simp (disch := omega) only [sI_o, sI_k, sI_n, sA_o, sA_s, sI_2, sA_2, sL_1, sL_o], fun i i1 i2 => by rw [sI_o (by omega), y3.2.1 i i1 i2]; simp (disch := omega) only [sI_o, sI_k, sI_n, sA_o, sA_s, sI_2, sA_2, sL_1, sL_o], fun p hp => ?_, fun i hi => ?_, by rw [sI_2, y3.2.2.2.2]; rfl⟩
              · by_cases e : p = who v t
                · rw [e, sI_k, hX'.2.2.2.1 _ hq]
                · rw [sI_n e, y3.2.2.1 p hp, sI_n e, sI_o (by omega)]
              · rw [sI_o (by omega), y3.2.2.2.1 i (by omega), sI_o (by omega), sI_n (by omega)]
            have hcnt := dfs_cnt (w := dT d) (L := dLit d) (T := dTold d) j (drawn (dT d) (tR (dT d)) v t) (r * tK (dT d) + t) (st1 s t) A'
            obtain ⟨τ, t1, t2, t3⟩ := ihn (t + 1) (dfs (dT d) (dLit d) (dTold d) j (drawn (dT d) (tR (dT d)) v t) (r * tK (dT d) + t) (st1 s t) A') (g_sI y 71 (who v t) (nI (nA v (who v t)))) fu' (by omega) (by omega) (by omega) (XI_k hX' hXR) (by
              unfold AI at *
              rw [sI_o (by omega), sI_o (by omega)]; exact y2) ⟨fun i hi => by rw [hXR.2.2.2.1 i hi]; exact hR'.1 i hi, hR'.2⟩
            refine ⟨τ, ?_, ?_, XR_tr hXR t3⟩
            · unfold m_X1_extend_164 m_X1_extend_207 g_lt
              dsimp only
              rw [if_pos (a_in (show k < 4 by omega) (by omega)), if_pos (a_in (show who v t < 6 by omega) (by omega)), nI_clamp (by omega), nI_clamp (by omega)]
              rw [nI_1, y1, Option.bind_some, if_pos (a_in (show who v t < 6 by omega) (by omega)), nI_1]
              exact t1
            · rw [fd_s]
              try dsimp only
              rw [if_pos hb]
              exact t2
          unfold m_X1_extend_33
          rw [hX'.1.1.2.1, if_neg (a_nle (a := tK (dT d)) t (by omega) (by omega)), hw0, Option.bind_some]
          dsimp only
          rw [c_holds hS (by omega), Option.bind_some, if_pos hb]
          dsimp only
          rw [if_neg n10, if_neg (nI_pos (by omega)), if_pos (show nI (who v t) < (6 : Int32) from a_lt 6 (by omega) (by omega)), if_pos (a_in (show who v t < 6 by omega) (by omega)), nI_clamp (by omega), hX'.2.2.2.1 _ hq]
          unfold m_X10_older g_lt
          dsimp only
          rw [older_nI hqa, Option.bind_some]
          dsimp only
          rw [hX'.2.1, c_holds hlit (by omega), Option.bind_some]
          dsimp only
          have h122 : ∀ z : Bool, m_X1_extend_122 (m_X1_extend N fu) (m_X1_extend_33 (m_X1_extend N fu) N fu') N (nI k) (nI (nS v)) (nI (nD v)) (nI (msV (tP (dT d)) (dLit d) (dTold d) v)) (nI t) (nI (who v t)) (nI (nA v (who v t))) (nI (aged (nA v (who v t)))) (if z = true then 1 else 0) σ' = m_X1_extend_164 (m_X1_extend N fu) (m_X1_extend_33 (m_X1_extend N fu) N fu') N (nI k) (nI (nS v)) (nI (nD v)) (nI (msV (tP (dT d)) (dLit d) (dTold d) v)) (nI t) (nI (who v t)) (nI (nA v (who v t))) (nI (aged (nA v (who v t)))) (nI (nS (drawn (dT d) (tR (dT d)) v t))) (nI (nD (drawn (dT d) (tR (dT d)) v t))) (if z = true then nI (msV (tP (dT d)) (dLit d) (dTold d) v) - (nI (aged (nA v (who v t))) - nI (nA v (who v t))) else nI (msV (tP (dT d)) (dLit d) (dTold d) v)) σ' := fun z => by
            unfold m_X1_extend_122
            rw [c_drumA ok.1 hX'.1.1 hS htK hv.1, Option.bind_some]
            dsimp only
            rw [c_drawsA ok.1 hX'.1.1 hS htK hv.1, Option.bind_some]
            dsimp only
            cases z
            · rw [if_neg (show ¬ false = true by decide), if_pos rfl, if_neg (show ¬ false = true by decide)]; rfl
            · rw [if_pos rfl, if_neg n10, if_pos rfl]; rfl
          by_cases hl : bt (dLit d) (who v t) = true
          · have hT := ok.2.2.2.2.2.2.1.2 _ hq
            rw [if_pos hl, if_neg n10, if_pos (a_in (show who v t < 6 by omega) (by omega)), hX'.2.2.1 _ hq hl]
            by_cases hag2 : aged (nA v (who v t)) ≤ dTold d (who v t)
            · have e := h122 true
              rw [if_pos rfl, if_pos rfl] at e
              have em := ms_lit (w := dT d) (R := tR (dT d)) (T := dTold d) hq hl hag2
              rw [if_pos (a_le _ hag2 (by omega)), e, pk_sub hag.1, pk_sub (by omega)]
              exact hgo (fun _ => hag2) _ (by omega)
            · rw [if_neg (a_nle _ (by omega) (by omega))]
              unfold m_X1_extend_207 g_lt
              rw [nI_1]
              exact skip (Or.inl (dfs_1 hq hl j _ _ _ _ (by rw [nA_dr, if_pos rfl]; omega)))
          · have e := h122 false
            rw [if_neg (show ¬ false = true by decide), if_neg (show ¬ false = true by decide)] at e
            rw [if_neg hl, if_pos rfl, e]
            exact hgo (fun q => absurd q hl) _ (ms_dark hl).symm
        · unfold m_X1_extend_33
          rw [hX'.1.1.2.1, if_neg (a_nle (a := tK (dT d)) t (by omega) (by omega)), hw0, Option.bind_some]
          dsimp only
          rw [c_holds hS (by omega), Option.bind_some, if_neg hb]
          dsimp only
          rw [if_pos rfl]
          unfold m_X1_extend_207 g_lt
          rw [nI_1]
          exact skip (Or.inr hb)
    unfold m_X1_extend m_X1_extend_0
    rw [hX.2.2.2.2, pk_sub (by omega), show m - k = j + 1 by omega]
    by_cases h0 : msV (tP (dT d)) (dLit d) (dTold d) v ≤ j + 1
    · rw [if_pos (a_le _ h0 (by omega)), if_neg (a_nle (a := m) k (by omega) (by omega)), if_pos (show nI k < (4 : Int32) from a_lt 4 (by omega) (by omega))]
      rw [dfs_s]
      exact loop (tK (dT d)) 0 A σ N (by omega) (by omega) (by rw [Nat.pow_succ, Nat.mul_comm] at hA1; exact hA1) hX hA hR
    · rw [if_neg (a_nle _ (by omega) (by omega))]
      refine ⟨σ, rfl, ?_, XR_rf _ _ _⟩
      rw [dfs_2 (j + 1) v r s A (by omega)]
      exact hA

theorem leV_no {P L : Nat} {T : Nat → Nat} {v : Nw} (h : ¬ leV P L T v) : ∃ p, p < P ∧ bt L p = true ∧ T p < nA v p := by
  apply Classical.byContradiction
  intro z
  refine h (fun p hp hb => ?_)
  apply Classical.byContradiction
  intro q
  exact z ⟨p, hp, hb, by omega⟩
def msJ (L : Nat) (T : Nat → Nat) (v : Nw) (p : Nat) : Nat := sg p (fun p => if bt L p = true then T p - nA v p else 0)
abbrev A0 (d : Dt) : Ac := (0, 0, 2 ^ tK (dT d) - 1)
theorem c_s43 {d : Dt} {m N : Nat} (ok : OK d) (hK : 0 < tK (dT d)) (hm : m ≤ 4) (hN : 8 < N) {σ : g_St} (hX : XI d m (dN d) σ) (hA : AI d m (A0 d) σ) : ∀ n p fu, p + n = tP (dT d) → n < fu → (∀ q, q < p → bt (dLit d) q = true → nA (dN d) q ≤ dTold d q) → ∃ τ, m_X1_search_43 N fu (nI (msJ (dLit d) (dTold d) (dN d) p)) (nI p) σ = some τ ∧ AI d m (dfs (dT d) (dLit d) (dTold d) m (dN d) 0 0 (A0 d)) τ ∧ XR σ τ (tP (dT d)) 0 := by
  have hP6 : tP (dT d) ≤ 6 := ok.1.1
  have hK8 : tK (dT d) ≤ 8 := ok.1.2.1
  have hlit := lit_lt ok
  have hT := ok.2.2.2.2.2.2.1.2
  intro n
  induction n with
  | zero =>
    intro p fu hp hf hle
    obtain ⟨fu, rfl⟩ : ∃ f, fu = f + 1 := ⟨fu - 1, by omega⟩
    have hpw : tK (dT d) ^ m ≤ 4096 := Nat.le_trans (Nat.pow_le_pow_left hK8 m) (Nat.pow_le_pow_right (n := 8) (by omega) hm)
    obtain ⟨τ, t1, t2, t3⟩ := c_ext (N := N) ok hK hm hN m 0 (dN d) 0 0 (A0 d) σ 5 (by omega) (by omega) ok.2.1.o (fun _ => rfl) (fun q hq hb => hle q (by omega) hb) (by show 0 + _ ≤ 9000; omega) hX hA ⟨fun i hi => by omega, rfl⟩
    refine ⟨τ, ?_, t2, t3⟩
    unfold m_X1_search_43
    rw [hX.1.1.1, if_pos (a_le p (by omega) (by omega)), hX.1.2.2.2.1, hX.1.2.2.1, show p = tP (dT d) by omega]
    rw [show (0 : Int32) = nI 0 from rfl, show msJ (dLit d) (dTold d) (dN d) (tP (dT d)) = msV (tP (dT d)) (dLit d) (dTold d) (dN d) from rfl, t1, Option.bind_some]
  | succ n ih =>
    intro p fu hp hf hle
    obtain ⟨fu, rfl⟩ : ∃ f, fu = f + 1 := ⟨fu - 1, by omega⟩
    have ha := (ok.2.1.2.2.2.2.1 p (by omega)).1
    have i1 : g_in (nI p) 6 := a_in (by omega) (by omega)
    unfold m_X1_search_43 m_X1_search_105 g_lt
    dsimp only
    rw [hX.1.1.1, if_neg (a_nle (a := tP (dT d)) p (by omega) (by omega)), hX.2.1, c_holds hlit (by omega), Option.bind_some]
    dsimp only
    rw [nI_1]
    by_cases hb : bt (dLit d) p = true
    · rw [if_pos hb, if_neg n10, if_pos i1, if_pos i1, nI_clamp (by omega), hX.2.2.2.1 p (by omega), hX.2.2.1 p (by omega) hb]
      by_cases hc : nA (dN d) p ≤ dTold d p
      · rw [if_pos (a_le _ hc (by have := hT p (by omega); omega)), if_pos i1, if_pos i1, pk_sub hc, nI_add]
        have e : msJ (dLit d) (dTold d) (dN d) (p + 1) = msJ (dLit d) (dTold d) (dN d) p + (dTold d p - nA (dN d) p) := by
          unfold msJ
          rw [sg_s, if_pos hb]
        rw [← e]
        exact ih (p + 1) fu (by omega) (by omega) (fun q hq hbq => by
          by_cases e : q = p
          · rw [e]; exact hc
          · exact hle q (by omega) hbq)
      · rw [if_neg (a_nle _ (by omega) (by omega))]
        refine ⟨σ, rfl, ?_, XR_rf _ _ _⟩
        rw [dfs_1 (show p < tP (dT d) by omega) hb m (dN d) 0 0 (A0 d) (by omega)]
        exact hA
    · rw [if_neg hb, if_pos rfl]
      have e : msJ (dLit d) (dTold d) (dN d) (p + 1) = msJ (dLit d) (dTold d) (dN d) p := by
        unfold msJ
        rw [sg_s, if_neg hb, Nat.add_zero]
      have := ih (p + 1) fu (by omega) (by omega) (fun q hq hbq => by
        by_cases e : q = p
        · rw [e] at hbq; exact absurd hbq hb
        · exact hle q (by omega) hbq)
      rw [e] at this
      exact this
noncomputable abbrev rsA (d : Dt) (m : Nat) : Ac := dfs (dT d) (dLit d) (dTold d) m (dN d) 0 0 (A0 d)
theorem c_search {d : Dt} {m N : Nat} {σ : g_St} (ok : OK d) (hK : 0 < tK (dT d)) (hm : m ≤ 4) (hN : 8 < N) (h : CC d σ) : ∃ τ, m_X1_search N (nI m) σ = some τ ∧ AI d m (rsA d m) τ ∧ τ.1 69 7 = nI m ∧ CC d τ ∧ keepR σ τ := by
  have hP6 : tP (dT d) ≤ 6 := ok.1.1
  have hK8 : tK (dT d) ≤ 8 := ok.1.2.1
  obtain ⟨hs1, hs2, hs3, hs4, hs5⟩ := h.2.2.2
  obtain ⟨σ0, e0⟩ : ∃ s, s = g_sI (g_sI (g_sI (g_sA σ 71 (va_cpy (σ.1 17) (σ.1 71) 0 0 6)) 69 5 0) 69 6 (nI (2 ^ tK (dT d) - 1))) 69 7 (nI m) := ⟨_, rfl⟩
  have hX : XI d m (dN d) σ0 := by
    rw [e0]
    refine ⟨⟨CT_k h.1.1 (fun c _ _ => by simp (disch := omega) only [sI_o, sI_k, sI_n, sA_o, sA_s, sI_2, sA_2, sL_1, sL_o]), CN_k h.1.2.1 (fun c _ _ => by simp (disch := omega) only [sI_o, sI_k, sI_n, sA_o, sA_s, sI_2, sA_2, sL_1, sL_o])⟩, by simp (disch := omega) only [sI_o, sI_k, sI_n, sA_o, sA_s, sI_2, sA_2, sL_1, sL_o]; exact hs3, fun p hp hb => by simp (disch := omega) only [sI_o, sI_k, sI_n, sA_o, sA_s, sI_2, sA_2, sL_1, sL_o]; exact hs4 p hp hb, fun p hp => ?_, by simp (disch := omega) only [sI_o, sI_k, sI_n, sA_o, sA_s, sI_2, sA_2, sL_1, sL_o]⟩
    simp (disch := omega) only [sI_o, sI_k, sI_n, sA_o, sA_s, sI_2, sA_2, sL_1, sL_o]
    rw [pk_cpy_in (by omega) (by omega), show 0 + (p - 0) = p by omega]
    exact (h.1.2.1.2.2.2.1 p hp).1
  have hA : AI d m (A0 d) σ0 := by
    rw [e0]
    refine ⟨by simp (disch := omega) only [sI_o, sI_k, sI_n, sA_o, sA_s, sI_2, sA_2, sL_1, sL_o]; rfl, by simp (disch := omega) only [sI_o, sI_k, sI_n, sA_o, sA_s, sI_2, sA_2, sL_1, sL_o], fun q => absurd rfl q⟩
  obtain ⟨τ, t1, t2, t3⟩ := c_s43 (N := N) ok hK hm hN hX hA (tP (dT d)) 0 N (by omega) (by omega) (fun q hq => by omega)
  have hk : ∀ c, c ≠ 69 → c ≠ 71 → c ≠ 72 → c ≠ 73 → τ.1 c = σ.1 c := fun c c1 c2 c3 c4 => by rw [t3.1 c c1 c2 c3 c4, e0]; simp (disch := omega) only [sI_o, sI_k, sI_n, sA_o, sA_s, sI_2, sA_2, sL_1, sL_o]
  refine ⟨τ, ?_, t2, by rw [t3.2.1 7 (by omega) (by omega)]; exact hX.2.2.2.2, ?_, fun c hc => ⟨hk c (by omega) (by omega) (by omega) (by omega), by rw [t3.2.2.2.2, e0]; rfl⟩⟩
  · unfold m_X1_search m_X7_everyTicket g_lt
    dsimp only
    rw [Option.bind_some]
    dsimp only
    have ek : (g_sI (g_sA σ 71 (va_cpy (σ.1 17) (σ.1 71) 0 0 6)) 69 5 0).1 13 3 = nI (tK (dT d)) := by simp (disch := omega) only [sI_o, sI_k, sI_n, sA_o, sA_s, sI_2, sA_2, sL_1, sL_o]; exact h.1.1.2.1
    rw [ek, u_all (tK (dT d)) (by omega), if_neg (show ¬ (4 : Int32) < nI m from a_nlt (a := 4) m hm (by omega)), ← e0]
    exact t1
  · obtain ⟨⟨a1, a2, a3⟩, h2, h3, _⟩ := h
    refine ⟨⟨CT_k a1 (fun c _ _ => hk c (by omega) (by omega) (by omega) (by omega)), CN_k a2 (fun c _ _ => hk c (by omega) (by omega) (by omega) (by omega)), by rw [hk 0 (by omega) (by omega) (by omega) (by omega)]; exact a3⟩, CCu_k h2 rfl rfl (fun c _ _ => hk c (by omega) (by omega) (by omega) (by omega)), CCk_k h3 rfl rfl (fun c _ _ => hk c (by omega) (by omega) (by omega) (by omega)), ?_⟩
    have e4 : τ.1 69 4 = σ.1 69 4 := by rw [t3.2.1 4 (by omega) (by omega), e0]; simp (disch := omega) only [sI_o, sI_k, sI_n, sA_o, sA_s, sI_2, sA_2, sL_1, sL_o]
    unfold CCs
    rw [hk 67 (by omega) (by omega) (by omega) (by omega), hk 68 (by omega) (by omega) (by omega) (by omega), hk 70 (by omega) (by omega) (by omega) (by omega), hk 74 (by omega) (by omega) (by omega) (by omega), hk 75 (by omega) (by omega) (by omega) (by omega), hk 0 (by omega) (by omega) (by omega) (by omega), hk 1 (by omega) (by omega) (by omega) (by omega), e4]
    exact ⟨hs1, hs2, hs3, hs4, hs5⟩
