/-! judge, ageBy: the register read -/
def rdI (w : Tw) (b : Nat → Nat) : Nat → Nat → Nw → Nat
  | 0, k, _ => k
  | m + 1, k, v => if bt (nS v) (b k) then rdI w b m (k + 1) (drawn w (tR w) v (b k)) else k
def rdV (w : Tw) (b : Nat → Nat) : Nat → Nat → Nw → Nw
  | 0, _, v => v
  | m + 1, k, v => if bt (nS v) (b k) then rdV w b m (k + 1) (drawn w (tR w) v (b k)) else v
theorem rdI_s (w : Tw) (b : Nat → Nat) (m k : Nat) (v : Nw) : rdI w b (m + 1) k v = if bt (nS v) (b k) then rdI w b m (k + 1) (drawn w (tR w) v (b k)) else k := rfl
theorem rdV_s (w : Tw) (b : Nat → Nat) (m k : Nat) (v : Nw) : rdV w b (m + 1) k v = if bt (nS v) (b k) then rdV w b m (k + 1) (drawn w (tR w) v (b k)) else v := rfl
theorem rdI_le (w : Tw) (b : Nat → Nat) : ∀ m k v, k ≤ rdI w b m k v ∧ rdI w b m k v ≤ k + m
  | 0, k, v => ⟨Nat.le_refl _, Nat.le_refl _⟩
  | m + 1, k, v => by
    have h := rdI_le w b m (k + 1) (drawn w (tR w) v (b k))
    rw [rdI_s]
    split <;> omega
theorem RR_back {d : Dt} {σ τ : g_St} (ok : OK d) (h : RR d σ) (h86 : ∀ j, j < 39 → τ.1 86 j = σ.1 81 j) (hk : ∀ c, 77 ≤ c → c ≠ 81 → c ≠ 86 → τ.1 c = σ.1 c) : RR d (cpS τ 81 86 0 0 0 39) := by
  obtain ⟨⟨a1, a2, a3⟩, h2, h3, h4⟩ := h
  refine ⟨⟨?_, ?_, ?_⟩, ?_, ?_, ?_⟩
  · rw [cpS_o (by omega), hk 79 (by omega) (by omega) (by omega)]; exact a1
  · refine RN_ext ok.1 a2 (fun j hj => ?_)
    have e := cpS_at (σ := τ) (c := 81) (c' := 86) (o := 0) (o' := 0) (n := 39) hj
    rw [Nat.zero_add] at e
    rw [e, h86 j hj]
  · rw [cpS_o (by omega), hk 77 (by omega) (by omega) (by omega)]; exact a3
  · exact RRu_k h2 rfl rfl (by rw [cpS_o (by omega), hk 77 (by omega) (by omega) (by omega)]) (by rw [cpS_o (by omega), hk 82 (by omega) (by omega) (by omega)])
  · exact RRk_k h3 rfl rfl (by rw [cpS_o (by omega), hk 92 (by omega) (by omega) (by omega)])
  · unfold RRs at *
    rw [cpS_o (by omega), cpS_o (by omega), cpS_o (by omega), cpS_o (by omega), cpS_o (by omega), hk 77 (by omega) (by omega) (by omega), hk 89 (by omega) (by omega) (by omega), hk 90 (by omega) (by omega) (by omega), hk 91 (by omega) (by omega) (by omega), hk 80 (by omega) (by omega) (by omega)]
    exact h4
theorem aside_at {σ : g_St} {j : Nat} (hj : j < 39) : (cpS σ 86 81 0 0 0 39).1 86 j = σ.1 81 j := by
  have e := cpS_at (σ := σ) (c := 86) (c' := 81) (o := 0) (o' := 0) (n := 39) hj
  rw [Nat.zero_add] at e
  exact e
theorem r_reads_loop {w : Tw} {b : Nat → Nat} {L N : Nat} (hw : TwOK w) (hL : L ≤ 20) (hb : ∀ i, i < L → b i < tK w) : ∀ m k fu v σ, NwO w v → nY v + m < 1000000 → RT w (σ.1 79) → RN w v (σ.1 81) → σ.1 77 21 = nI L → (∀ i, i < L → σ.1 91 i = nI (b i)) → k + m = L → m < fu → ∃ τ, m_X11_reads_2 N fu (nI k) σ = some (if rdI w b m k v = L then -1 else nI (rdI w b m k v), τ) ∧ RN w (rdV w b m k v) (τ.1 81) ∧ (∀ c, c ≠ 81 → τ.1 c = σ.1 c) ∧ τ.2 = σ.2 := by
  have hK := hw.2.1
  intro m
  induction m with
  | zero =>
    intro k fu v σ hv hy hT hR h21 h91 hk hf
    obtain ⟨fu, rfl⟩ : ∃ f, fu = f + 1 := ⟨fu - 1, by omega⟩
    refine ⟨σ, ?_, hR, fun c _ => rfl, rfl⟩
    unfold m_X11_reads_2
    rw [h21, if_pos (a_le k (by omega) (by omega)), if_pos (show rdI w b 0 k v = L from hk)]
  | succ m ih =>
    intro k fu v σ hv hy hT hR h21 h91 hk hf
    obtain ⟨fu, rfl⟩ : ∃ f, fu = f + 1 := ⟨fu - 1, by omega⟩
    have hS : nS v < 256 := Nat.lt_of_lt_of_le hv.2.1 (pow8 hK)
    have hbk := hb k (by omega)
    have i1 : g_in (nI k) 20 := a_in (by omega) (by omega)
    by_cases hbt : bt (nS v) (b k) = true
    · obtain ⟨x, x1, x2, x3, x4⟩ := r_draws (t := b k) (R := tR w) hw hv (by omega) hT hR hbk hw.2.2.2.2.1
      have hy2 := drawn_year w (tR w) v (b k)
      obtain ⟨τ, t1, t2, t3, t4⟩ := ih (k + 1) fu (drawn w (tR w) v (b k)) x (drawn_ok hw hv hbk) (by omega) (by rw [x3 79 (by omega)]; exact hT) x2 (by rw [x3 77 (by omega)]; exact h21) (by rw [x3 91 (by omega)]; exact h91) (by omega) (by omega)
      rw [rdI_s, rdV_s, if_pos hbt, if_pos hbt]
      refine ⟨τ, ?_, t2, fun c hc => by rw [t3 c hc, x3 c hc], t4.trans x4⟩
      unfold m_X11_reads_2 g_lt
      rw [h21, if_neg (a_nle (a := L) k (by omega) (by omega)), if_pos i1, nI_clamp (by omega), h91 k (by omega), hR.2.2.1, bit1 hS (by omega) hbt, if_neg n10, if_pos i1, hT.2.2.2.1, x1, Option.bind_some]
      dsimp only
      rw [nI_1, t1]
    · rw [rdI_s, rdV_s, if_neg hbt, if_neg hbt, if_neg (by omega)]
      refine ⟨σ, ?_, hR, fun c _ => rfl, rfl⟩
      unfold m_X11_reads_2
      rw [h21, if_neg (a_nle (a := L) k (by omega) (by omega)), if_pos i1, nI_clamp (by omega), h91 k (by omega), hR.2.2.1, bit0 hS (by omega) hbt, if_pos rfl]
theorem c_wrong_loop {w : Tw} {b : Nat → Nat} {L N : Nat} {σ : g_St} (hw : TwOK w) (hL : L ≤ 20) (hb : ∀ i, i < L → b i < tK w) (hT : CT w σ) (h74 : σ.1 74 1 = nI L) (h75 : ∀ i, i < L → σ.1 75 i = nI (b i)) : ∀ m k fu v, NwO w v → k + m = L → m < fu → m_X0_wrong_14 N fu (nI (nS v)) (nI (nD v)) (nI k) σ = some (if rdI w b m k v = L then -1 else nI (rdI w b m k v), σ) := by
  have hK := hw.2.1
  intro m
  induction m with
  | zero =>
    intro k fu v hv hk hf
    obtain ⟨fu, rfl⟩ : ∃ f, fu = f + 1 := ⟨fu - 1, by omega⟩
    unfold m_X0_wrong_14
    rw [h74, if_pos (a_le k (by omega) (by omega)), if_pos (show rdI w b 0 k v = L from hk)]
  | succ m ih =>
    intro k fu v hv hk hf
    obtain ⟨fu, rfl⟩ : ∃ f, fu = f + 1 := ⟨fu - 1, by omega⟩
    have hS : nS v < 256 := Nat.lt_of_lt_of_le hv.2.1 (pow8 hK)
    have hbk := hb k (by omega)
    have i1 : g_in (nI k) 20 := a_in (by omega) (by omega)
    unfold m_X0_wrong_14 g_lt
    rw [h74, if_neg (a_nle (a := L) k (by omega) (by omega)), if_pos i1, nI_clamp (by omega), h75 k (by omega)]
    dsimp only
    rw [c_holds hS (by omega), Option.bind_some, rdI_s]
    dsimp only
    by_cases hbt : bt (nS v) (b k) = true
    · rw [if_pos hbt, if_pos hbt, if_neg n10, c_drumA hw hT hS hbk hv.1, Option.bind_some]
      dsimp only
      rw [c_drawsA hw hT hS hbk hv.1, Option.bind_some]
      dsimp only
      rw [nI_1]
      exact ih (k + 1) fu (drawn w (tR w) v (b k)) (drawn_ok hw hv hbk) (by omega) (by omega)
    · rw [if_neg hbt, if_neg hbt, if_pos rfl, if_neg (by omega)]
theorem book_b {d : Dt} (ok : OK d) : ∀ i, i < (dBook d).length → (dBook d).getD i 0 < tK (dT d) := fun i hi => by
  refine ok.2.2.2.2.2.2.2.1.2 _ ?_
  rw [List.getD_eq_getElem?_getD, List.getElem?_eq_getElem hi]
  exact List.getElem_mem hi
abbrev bkF (d : Dt) : Nat → Nat := fun i => (dBook d).getD i 0
theorem c_wrong {d : Dt} {σ : g_St} {N : Nat} (ok : OK d) (h : CC d σ) (hN : 20 < N) : m_X0_wrong N σ = some (if rdI (dT d) (bkF d) (dBook d).length 0 (dN d) = (dBook d).length then -1 else nI (rdI (dT d) (bkF d) (dBook d).length 0 (dN d)), σ) := by
  have hL := ok.2.2.2.2.2.2.2.1.1
  unfold m_X0_wrong g_lt
  rw [h.1.2.1.2.2.1, h.1.2.1.2.1]
  exact c_wrong_loop ok.1 hL (book_b ok) h.1.1 h.2.2.2.2.2.2.2.1 h.2.2.2.2.2.2.2.2.1 _ 0 N (dN d) ok.2.1.o (by omega) (by omega)
theorem r_reads {d : Dt} {σ : g_St} {N : Nat} (ok : OK d) (h : RR d σ) (hN : 39 < N) : ∃ τ, m_X11_reads N (cpS σ 86 81 0 0 0 39) = some (if rdI (dT d) (bkF d) (dBook d).length 0 (dN d) = (dBook d).length then -1 else nI (rdI (dT d) (bkF d) (dBook d).length 0 (dN d)), τ) ∧ RN (dT d) (rdV (dT d) (bkF d) (dBook d).length 0 (dN d)) (τ.1 81) ∧ RR d (cpS τ 81 86 0 0 0 39) ∧ keepC σ (cpS τ 81 86 0 0 0 39) := by
  have hL := ok.2.2.2.2.2.2.2.1.1
  have hy : nY (dN d) ≤ 90200 := ok.2.1.1
  have hy2 : nY (dN d) + (dBook d).length < 1000000 := by
    generalize nY (dN d) = a at *
    omega
  obtain ⟨τ, t1, t2, t3, t4⟩ := r_reads_loop (N := N) (σ := cpS σ 86 81 0 0 0 39) ok.1 hL (book_b ok) (dBook d).length 0 N (dN d) ok.2.1.o hy2 (by rw [cpS_o (by omega)]; exact h.1.1) (by rw [cpS_o (by omega)]; exact h.1.2.1) (by rw [cpS_o (by omega)]; exact h.2.2.2.2.2.2.2.1) (by rw [cpS_o (by omega)]; exact h.2.2.2.2.2.2.2.2.1) (by omega) (by omega)
  refine ⟨τ, t1, t2, RR_back ok h (fun j hj => by rw [t3 86 (by omega)]; exact aside_at hj) (fun c c1 c2 c3 => by rw [t3 c c2, cpS_o c3]), fun c hc => ⟨?_, ?_⟩⟩
  · rw [cpS_o (by omega), t3 c (by omega), cpS_o (by omega)]
  · rw [cpS_2, t4, cpS_2]
theorem sp_judge (N : Nat) (hN : 39 < N) : Sp (m_X10_judge N) (m_X11_judge N) := by
  intro d ok
  refine ⟨if rdI (dT d) (bkF d) (dBook d).length 0 (dN d) = (dBook d).length then -1 else nI (rdI (dT d) (bkF d) (dBook d).length 0 (dN d)), d, ok, fun σ h => ⟨σ, ?_, h, keepR_rf σ⟩, fun σ h => ?_⟩
  · unfold m_X10_judge
    rw [c_wrong ok h (by omega), Option.bind_some]
  · obtain ⟨τ, t1, t2, t3, t4⟩ := r_reads ok h hN
    refine ⟨_, ?_, t3, t4⟩
    unfold m_X11_judge
    rw [r_asides hN, Option.bind_some, t1, Option.bind_some]
    dsimp only
    rw [r_backs hN, Option.bind_some]
theorem c_behind_loop {w : Tw} {b : Nat → Nat} {L N p : Nat} {σ : g_St} {v0 : Nw} (hw : TwOK w) (hL : L ≤ 20) (hb : ∀ i, i < L → b i < tK w) (hv0 : NwO w v0) (hc : CN w v0 σ) (hp : p < tP w) (h75 : ∀ i, i < L → σ.1 75 i = nI (b i)) : ∀ m k fu v, NwO w v → (∀ t, who v t = who v0 t) → k + m ≤ L → m < fu → m_X0_ageBehind_36 N fu (nI p) (nI (rdI w b m k v)) (nI (nA v p)) (nI k) σ = some (nI (nA (rdV w b m k v) p), σ) := by
  have hK := hw.2.1
  have hP := hw.1
  intro m
  induction m with
  | zero =>
    intro k fu v hv hwho hk hf
    obtain ⟨fu, rfl⟩ : ∃ f, fu = f + 1 := ⟨fu - 1, by omega⟩
    unfold m_X0_ageBehind_36
    rw [if_pos (show nI (rdI w b 0 k v) ≤ nI k from a_le k (Nat.le_refl _) (by omega))]
    rfl
  | succ m ih =>
    intro k fu v hv hwho hk hf
    obtain ⟨fu, rfl⟩ : ∃ f, fu = f + 1 := ⟨fu - 1, by omega⟩
    have hbk := hb k (by omega)
    have i1 : g_in (nI k) 20 := a_in (by omega) (by omega)
    have hpw := NwO_who hv0 hbk
    have ha := (hv.2.2.2.1 p hp).1
    rw [rdI_s, rdV_s]
    unfold m_X0_ageBehind_36
    by_cases hbt : bt (nS v) (b k) = true
    · have hn := ih (k + 1) fu (drawn w (tR w) v (b k)) (drawn_ok hw hv hbk) hwho (by omega) (by omega)
      have hr := rdI_le w b m (k + 1) (drawn w (tR w) v (b k))
      rw [if_pos hbt, if_pos hbt, if_neg (a_nle (a := rdI w b m (k + 1) (drawn w (tR w) v (b k))) k (by omega) (by omega)), if_pos i1, nI_clamp (by omega), h75 k (by omega), c_whoO hw hv0 hc hbk, Option.bind_some]
      dsimp only
      unfold m_X0_ageBehind_65 m_X10_older g_lt
      have e : nA (drawn w (tR w) v (b k)) p = va_up (nA v) (who v (b k)) (aged (nA v (who v (b k)))) p := rfl
      by_cases hq : who v0 (b k) = p
      · rw [if_pos (by rw [hq]), older_nI ha, Option.bind_some]
        dsimp only
        rw [nI_1]
        rw [e, hwho, hq, g_up_s] at hn
        exact hn
      · rw [if_neg (a_ne p hq (by omega) (by omega)), nI_1]
        rw [e, hwho, g_up_n _ _ (fun z => hq z.symm)] at hn
        exact hn
    · rw [if_neg hbt, if_neg hbt, if_pos (a_le k (Nat.le_refl _) (by omega))]
set_option maxHeartbeats 1000000 in
theorem sp_ageBy (N : Nat) (hN : 39 < N) (x : Int32) : Sp (m_X10_ageBy N x) (m_X11_ageBy N x) := by
  intro d ok
  have hP6 : tP (dT d) ≤ 6 := ok.1.1
  have hL := ok.2.2.2.2.2.2.2.1.1
  rcases i_cases x (tP (dT d)) (by omega) with ⟨p, hp, rfl⟩ | hx
  · have hin : g_in (nI p) (tP (dT d)) := a_in hp (by omega)
    have hr := rdI_le (dT d) (bkF d) (dBook d).length 0 (dN d)
    refine ⟨nI (nA (rdV (dT d) (bkF d) (dBook d).length 0 (dN d)) p), d, ok, fun σ h => ⟨σ, ?_, h, keepR_rf σ⟩, fun σ h => ?_⟩
    · have hl := c_behind_loop (N := N) (p := p) ok.1 hL (book_b ok) ok.2.1.o h.1.2.1 hp h.2.2.2.2.2.2.2.2.1 (dBook d).length 0 N (dN d) ok.2.1.o (fun _ => rfl) (by omega) (by omega)
      have h23 : m_X0_ageBehind_23 N (nI p) (nI (rdI (dT d) (bkF d) (dBook d).length 0 (dN d))) σ = some (nI (nA (rdV (dT d) (bkF d) (dBook d).length 0 (dN d)) p), σ) := by
        unfold m_X0_ageBehind_23 g_lt
        rw [if_pos (a_in (show p < 6 by omega) (by omega)), nI_clamp (by omega), (h.1.2.1.2.2.2.1 p hp).1]
        exact hl
      unfold m_X10_ageBy
      rw [c_isP (nI p) h.1.1.1 (by omega), Option.bind_some]
      dsimp only
      rw [if_pos hin, if_neg n10]
      unfold m_X0_ageBehind
      rw [c_wrong ok h (by omega), Option.bind_some]
      dsimp only
      by_cases e : rdI (dT d) (bkF d) (dBook d).length 0 (dN d) = (dBook d).length
      · rw [if_pos e, if_pos rfl, h.2.2.2.2.2.2.2.1]
        rw [e] at h23
        rw [h23, Option.bind_some]
      · rw [if_neg e, if_neg (by rw [u_m1 (by omega)]; exact id), h23, Option.bind_some]
    · obtain ⟨τ, t1, t2, t3, t4⟩ := r_reads ok h hN
      refine ⟨_, ?_, t3, t4⟩
      unfold m_X11_ageBy g_lt
      rw [r_isP (nI p) h.1.1.1 (by omega), Option.bind_some]
      dsimp only
      rw [if_pos hin, if_neg n10, r_asides hN, Option.bind_some, t1, Option.bind_some, e3, if_pos (a_in (by omega) (by omega)), nI_clamp (by omega)]
      dsimp only
      rw [r_backs hN, Option.bind_some, (t2.2.2.2.1 p hp).1]
  · have hout : ¬ g_in x (tP (dT d)) := a_out (by omega) hx
    refine ⟨-1000000001, d, ok, fun σ h => ⟨σ, ?_, h, keepR_rf σ⟩, fun σ h => ⟨σ, ?_, h, keepC_rf σ⟩⟩
    · unfold m_X10_ageBy
      simp only [c_isP x h.1.1.1 (by omega), Option.bind_some, if_neg hout, if_true]
    · unfold m_X11_ageBy
      simp only [r_isP x h.1.1.1 (by omega), Option.bind_some, if_neg hout, if_true]
