/-! the reference goes through all rows -/
def GR (σ0 : g_St) (A : Ac) (τ : g_St) : Prop := (∀ j, j < 39 → τ.1 86 j = σ0.1 81 j) ∧ (∀ j, j < 39 → τ.1 81 j = σ0.1 81 j) ∧ (∀ c, c ≠ 77 → c ≠ 81 → c ≠ 86 → τ.1 c = σ0.1 c) ∧ (∀ j, j < 23 → τ.1 77 j = σ0.1 77 j) ∧ τ.2 = σ0.2 ∧ τ.1 77 23 = nI A.1 ∧ τ.1 77 24 = nI A.2.1 ∧ τ.1 77 25 = nI A.2.2 ∧ A.2.2 < 256
theorem RR_3 {d : Dt} {σ τ : g_St} (ok : OK d) (h : RR d σ) (h81 : ∀ j, j < 39 → τ.1 81 j = σ.1 81 j) (h77 : ∀ j, j < 23 → τ.1 77 j = σ.1 77 j) (hk : ∀ c, c ≠ 77 → c ≠ 81 → c ≠ 86 → τ.1 c = σ.1 c) : RR d τ := by
  obtain ⟨⟨a1, a2, a3⟩, h2, h3, h4⟩ := h
  refine ⟨⟨?_, RN_ext ok.1 a2 h81, ?_⟩, ?_, ?_, ?_⟩
  · rw [hk 79 (by omega) (by omega) (by omega)]; exact a1
  · rw [h77 8 (by omega)]; exact a3
  · exact RRu_k h2 rfl rfl (h77 9 (by omega)) (hk 82 (by omega) (by omega) (by omega))
  · exact RRk_k h3 rfl rfl (hk 92 (by omega) (by omega) (by omega))
  · unfold RRs at *
    rw [h77 17 (by omega), h77 19 (by omega), h77 21 (by omega), h77 3 (by omega), h77 6 (by omega), hk 89 (by omega) (by omega) (by omega), hk 90 (by omega) (by omega) (by omega), hk 91 (by omega) (by omega) (by omega), hk 80 (by omega) (by omega) (by omega)]
    exact h4
def rnF : Option (Nw × Nat) → Int32
  | none => 0
  | some _ => 1
theorem r_g65 {w : Tw} {m row N : Nat} {x2 : Int32} {k48 : Int32 → Int32 → Int32 → g_St → Option (g_St)} (hw : TwOK w) (hK : 0 < tK w) (hm : m ≤ 4) (hrow : row < 10000) : ∀ j k v s σ fu, k + j = m → j < fu → NwO w v → nY v + j < 1000000 → s < 256 → RT w (σ.1 79) → RN w v (σ.1 81) → ∃ τ x4, m_X11_goThrough_65 k48 N fu (nI m) x2 (nI row) (nI s) 1 (nI (tK w ^ j)) (nI k) σ = m_X11_goThrough_154 k48 N (nI m) x2 (nI row) x4 (rnF (rn w j v s row)) τ ∧ (∀ v' s', rn w j v s row = some (v', s') → x4 = nI s' ∧ RN w v' (τ.1 81) ∧ NwO w v' ∧ s' < 256) ∧ (∀ c, c ≠ 81 → τ.1 c = σ.1 c) ∧ τ.2 = σ.2 := by
  have hK8 := hw.2.1
  intro j
  induction j with
  | zero =>
    intro k v s σ fu hk hf hv hy hs hT hR
    obtain ⟨fu, rfl⟩ : ∃ f, fu = f + 1 := ⟨fu - 1, by omega⟩
    refine ⟨σ, nI s, ?_, fun v' s' e => by cases e; exact ⟨rfl, hR, hv, hs⟩, fun c _ => rfl, rfl⟩
    unfold m_X11_goThrough_65
    rw [if_pos (a_le k (by omega) (by omega))]
    rfl
  | succ j ih =>
    intro k v s σ fu hk hf hv hy hs hT hR
    obtain ⟨fu, rfl⟩ : ∃ f, fu = f + 1 := ⟨fu - 1, by omega⟩
    have hS : nS v < 256 := Nat.lt_of_lt_of_le hv.2.1 (pow8 hK8)
    have hpw : tK w ^ (j + 1) ≤ 4096 := Nat.le_trans (Nat.pow_le_pow_left hK8 (j + 1)) (Nat.pow_le_pow_right (n := 8) (by omega) (show j + 1 ≤ 4 by omega))
    have hpj : 0 < tK w ^ j := Nat.pow_pos hK
    have hpj2 : tK w ^ j ≤ 4096 := Nat.le_trans (Nat.pow_le_pow_left hK8 j) (Nat.pow_le_pow_right (n := 8) (by omega) (show j ≤ 4 by omega))
    have ht : row / tK w ^ j % tK w < tK w := Nat.mod_lt _ hK
    have hrj : row / tK w ^ j ≤ row := Nat.div_le_self _ _
    obtain ⟨t, et⟩ : ∃ t, t = row / tK w ^ j % tK w := ⟨_, rfl⟩
    have hst := st1_256 s hs t (by omega)
    have e1 : nI (tK w ^ (j + 1)) / nI (tK w) = nI (tK w ^ j) := by
      rw [pk_div (by omega) hK (by omega), Nat.pow_succ, Nat.mul_div_cancel _ hK]
    have e2 : nI row / nI (tK w ^ j) - nI row / nI (tK w ^ j) / nI (tK w) * nI (tK w) = nI t := by
      rw [pk_div (by omega) hpj (by omega), pk_rem (by omega) hK (by omega), et]
    have pre : m_X11_goThrough_65 k48 N (fu + 1) (nI m) x2 (nI row) (nI s) 1 (nI (tK w ^ (j + 1))) (nI k) σ = if bt (nS v) t = true then m_X11_goThrough_120 k48 (m_X11_goThrough_65 k48 N fu) N (nI m) x2 (nI row) (nI s) (nI (tK w ^ j)) (nI k) (nI t) 1 σ else m_X11_goThrough_120 k48 (m_X11_goThrough_65 k48 N fu) N (nI m) x2 (nI row) (nI s) (nI (tK w ^ j)) (nI k) (nI t) 0 σ := by
      conv => lhs; unfold m_X11_goThrough_65 g_lt
      dsimp only
      rw [if_neg (a_nle (a := m) k (by omega) (by omega)), if_neg n10, hT.2.1, if_neg (nI_ne0 hK (by omega)), e1, if_neg (nI_ne0 hpj (by omega)), if_neg (nI_ne0 hK (by omega)), e2, hR.2.2.1]
      by_cases hb : bt (nS v) t = true
      · rw [bit1 hS (by omega) hb, if_pos rfl, if_pos hb]
      · rw [bit0 hS (by omega) hb, if_neg n01, if_neg hb]
    rw [pre, rn_s, ← et]
    by_cases hb : bt (nS v) t = true
    · rw [if_pos hb, if_pos hb]
      obtain ⟨x, x1, x2', x3, x4⟩ := r_draws (t := t) (R := tR w) hw hv (by omega) hT hR (by omega) hw.2.2.2.2.1
      have hy2 := drawn_year w (tR w) v t
      obtain ⟨τ, y4, t1, t2, t3, t4⟩ := ih (k + 1) (drawn w (tR w) v t) (st1 s t) x fu (by omega) (by omega) (drawn_ok hw hv (by omega)) (by omega) hst (by rw [x3 79 (by omega)]; exact hT) x2'
      refine ⟨τ, y4, ?_, t2, fun c hc => (t3 c hc).trans (x3 c hc), t4.trans x4⟩
      rw [← t1]
      conv => lhs; unfold m_X11_goThrough_120 m_X11_goThrough_148 g_lt
      dsimp only
      rw [if_neg n10, or1 hs (by omega), hT.2.2.2.1, x1, Option.bind_some, nI_1]
    · rw [if_neg hb, if_neg hb]
      obtain ⟨fu, rfl⟩ : ∃ f, fu = f + 1 := ⟨fu - 1, by omega⟩
      refine ⟨σ, nI (st1 s t), ?_, (fun v' s' e => by cases e), fun c _ => rfl, rfl⟩
      unfold m_X11_goThrough_120 m_X11_goThrough_148 g_lt
      dsimp only
      rw [if_pos rfl, or1 hs (by omega), nI_1]
      unfold m_X11_goThrough_65
      rw [if_pos rfl, ite_self]
      rfl
def gEnd (k48 : Int32 → Int32 → Int32 → g_St → Option (g_St)) (N : Nat) (x1 x2 x3 x4 x5 : Int32) (σ : g_St) : Option g_St := ((m_X11_backs N σ).bind fun σ2 => (if x5 = 0 then m_X11_goThrough_240 k48 N x1 x2 x3 x4 x5 σ2
   else (if (σ2.1 77 23) = 0 then m_X11_goThrough_244 k48 N x1 x2 x3 x4 x5 x3 σ2
   else m_X11_goThrough_240 k48 N x1 x2 x3 x4 x5 σ2)))
theorem r_g157z {P N : Nat} {x1 x2 x3 x4 : Int32} {σ : g_St} {k48 : Int32 → Int32 → Int32 → g_St → Option (g_St)} (hP : P ≤ 6) (h0 : σ.1 79 0 = nI P) : ∀ n p fu, p + n = P → n < fu → m_X11_goThrough_157 k48 N fu x1 x2 x3 x4 0 (nI p) σ = gEnd k48 N x1 x2 x3 x4 0 σ := by
  intro n
  induction n with
  | zero =>
    intro p fu hp hf
    obtain ⟨fu, rfl⟩ : ∃ f, fu = f + 1 := ⟨fu - 1, by omega⟩
    unfold m_X11_goThrough_157
    rw [h0, if_pos (a_le p (by omega) (by omega))]
    rfl
  | succ n ih =>
    intro p fu hp hf
    obtain ⟨fu, rfl⟩ : ∃ f, fu = f + 1 := ⟨fu - 1, by omega⟩
    unfold m_X11_goThrough_157 m_X11_goThrough_210 m_X11_goThrough_211 g_lt
    rw [h0, if_neg (a_nle (a := P) p (by omega) (by omega)), if_pos rfl, nI_1]
    exact ih (p + 1) fu (by omega) (by omega)
theorem r_g157 {d : Dt} {v : Nw} {N : Nat} {x1 x2 x3 x4 : Int32} {σ : g_St} {k48 : Int32 → Int32 → Int32 → g_St → Option (g_St)} (ok : OK d) (h0 : σ.1 79 0 = nI (tP (dT d))) (hl : σ.1 77 19 = nI (dLit d)) (h90 : ∀ p, p < tP (dT d) → bt (dLit d) p = true → σ.1 90 p = nI (dTold d p)) (hR : RN (dT d) v (σ.1 81)) (hv : NwO (dT d) v) : ∀ n p fu, p + n = tP (dT d) → n < fu → m_X11_goThrough_157 k48 N fu x1 x2 x3 x4 1 (nI p) σ = gEnd k48 N x1 x2 x3 x4 (p01 (∀ q, q < tP (dT d) → p ≤ q → bt (dLit d) q = true → nA v q = dTold d q)) σ := by
  have hP : tP (dT d) ≤ 6 := ok.1.1
  have hlit := lit_lt ok
  have hT := ok.2.2.2.2.2.2.1.2
  intro n
  induction n with
  | zero =>
    intro p fu hp hf
    obtain ⟨fu, rfl⟩ : ∃ f, fu = f + 1 := ⟨fu - 1, by omega⟩
    unfold m_X11_goThrough_157
    rw [h0, if_pos (a_le p (by omega) (by omega)), p01_t (fun q h1 h2 => by omega)]
    rfl
  | succ n ih =>
    intro p fu hp hf
    obtain ⟨fu, rfl⟩ : ∃ f, fu = f + 1 := ⟨fu - 1, by omega⟩
    have hn := ih (p + 1) fu (by omega) (by omega)
    have ha := (hv.2.2.2.1 p (by omega)).1
    have hpp : (bt (dLit d) p = true → nA v p = dTold d p) → p01 (∀ q, q < tP (dT d) → p + 1 ≤ q → bt (dLit d) q = true → nA v q = dTold d q) = p01 (∀ q, q < tP (dT d) → p ≤ q → bt (dLit d) q = true → nA v q = dTold d q) := fun z => p01_c ⟨fun y q h1 h2 => by
      by_cases e : q = p
      · rw [e]; exact z
      · exact y q h1 (by omega), fun y q h1 h2 => y q h1 (by omega)⟩
    unfold m_X11_goThrough_157 m_X11_goThrough_206 m_X11_goThrough_210 m_X11_goThrough_211 g_lt
    dsimp only
    rw [h0, if_neg (a_nle (a := tP (dT d)) p (by omega) (by omega)), if_neg n10, hl, nI_1]
    by_cases hb : bt (dLit d) p = true
    · rw [bit1 hlit (by omega) hb, if_neg n10, e3, if_pos (a_in (by omega) (by omega)), if_pos (a_in (show p < 6 by omega) (by omega)), nI_clamp (by omega), nI_clamp (by omega), (hR.2.2.2.1 p (by omega)).1, h90 p (by omega) hb]
      by_cases c : nA v p = dTold d p
      · rw [if_pos (congrArg nI c), hn, hpp (fun _ => c)]
      · rw [if_neg (a_ne _ c (by omega) (by have := hT p (by omega); omega)), p01_f (fun z => c (z p (by omega) (Nat.le_refl _) hb))]
        exact r_g157z hP h0 n (p + 1) fu (by omega) (by omega)
    · rw [bit0 hlit (by omega) hb, if_pos rfl, hn, hpp (fun z => absurd z hb)]
theorem nt_lt {A : Ac} {r s : Nat} (h : A.2.2 < 256) : (nt A r s).2.2 < 256 := Nat.lt_of_le_of_lt Nat.and_le_left h
theorem r_end {σ0 σ : g_St} {A : Ac} {N m row s : Nat} {x2 : Int32} {k48 : Int32 → Int32 → Int32 → g_St → Option (g_St)} {P : Prop} {x4 : Int32} (hN : 39 < N) (hA1 : A.1 < 100000) (h86 : ∀ j, j < 39 → σ.1 86 j = σ0.1 81 j) (hk : ∀ c, c ≠ 77 → c ≠ 81 → c ≠ 86 → σ.1 c = σ0.1 c) (h77 : ∀ j, j < 23 → σ.1 77 j = σ0.1 77 j) (h2 : σ.2 = σ0.2) (h23 : σ.1 77 23 = nI A.1) (h24 : σ.1 77 24 = nI A.2.1) (h25 : σ.1 77 25 = nI A.2.2) (h256 : A.2.2 < 256) (hx4 : P → x4 = nI s) : ∃ τ, gEnd k48 N (nI m) x2 (nI row) x4 (p01 P) σ = k48 (nI m) x2 (nI (row + 1)) τ ∧ GR σ0 (@ite _ P (Classical.propDecidable _) (nt A row s) A) τ := by
  obtain ⟨σ2, e2⟩ : ∃ x, x = cpS σ 81 86 0 0 0 39 := ⟨_, rfl⟩
  have c2 : ∀ c, c ≠ 81 → σ2.1 c = σ.1 c := fun c hc => by rw [e2, cpS_o hc]
  have c81 : ∀ j, j < 39 → σ2.1 81 j = σ0.1 81 j := fun j hj => by
    have e := cpS_at (σ := σ) (c := 81) (c' := 86) (o := 0) (o' := 0) (n := 39) hj
    rw [Nat.zero_add] at e
    rw [e2, e, h86 j hj]
  have fin : ∀ (B : Ac) (a b c : Int32), a = nI B.1 → b = nI B.2.1 → c = nI B.2.2 → B.2.2 < 256 → GR σ0 B (g_sI (g_sI (g_sI σ2 77 24 b) 77 25 c) 77 23 a) := fun B a b c ha hb hc hB => by
    refine ⟨fun j hj => by simp (disch := omega) only [sI_o, sI_k, sI_n, sA_o, sA_s, sI_2, sA_2, sL_1, sL_o]; rw [c2 86 (by omega)]; exact h86 j hj, fun j hj => by simp (disch := omega) only [sI_o, sI_k, sI_n, sA_o, sA_s, sI_2, sA_2, sL_1, sL_o]; exact c81 j hj, fun c c1 c3 c4 => by simp (disch := omega) only [sI_o, sI_k, sI_n, sA_o, sA_s, sI_2, sA_2, sL_1, sL_o]; rw [c2 c c3]; exact hk c c1 c3 c4, fun j hj => ?_, by rw [sI_2, sI_2, sI_2, e2, cpS_2, h2], by rw [sI_k, ha], by rw [sI_n (by omega), sI_n (by omega), sI_k, hb], by rw [sI_n (by omega), sI_k, hc], hB⟩
    rw [sI_n (by omega), sI_n (by omega), sI_n (by omega), c2 77 (by omega)]
    exact h77 j hj
  unfold gEnd
  rw [r_backs hN, Option.bind_some, ← e2]
  by_cases hP : P
  · rw [p01_t hP, if_neg n10, hx4 hP, c2 77 (by omega), h23]
    have er : (@ite _ P (Classical.propDecidable _) (nt A row s) A) = nt A row s := if_pos hP
    rw [er]
    by_cases z : A.1 = 0
    · rw [z, if_pos (show nI 0 = 0 from rfl)]
      refine ⟨_, ?_, fin (nt A row s) (nI A.1 + 1) (nI row) (nI A.2.2 &&& nI s) (nI_1 _) (by unfold nt; dsimp only; rw [if_pos z]) (nI_and _ _) (nt_lt h256)⟩
      unfold m_X11_goThrough_244 m_X11_goThrough_263 m_X11_goThrough_282 g_lt
      dsimp only
      rw [if_neg n10, if_neg n10, nI_1 row, sI_n (by omega), sI_n (by omega), sI_n (by omega), c2 77 (by omega), h23, h25]
    · rw [if_neg (nI_ne0 (by omega) (by omega))]
      refine ⟨_, ?_, fin (nt A row s) (nI A.1 + 1) (nI A.2.1) (nI A.2.2 &&& nI s) (nI_1 _) (by unfold nt; dsimp only; rw [if_neg z]) (nI_and _ _) (nt_lt h256)⟩
      unfold m_X11_goThrough_240 m_X11_goThrough_244 m_X11_goThrough_263 m_X11_goThrough_282 g_lt
      dsimp only
      rw [if_neg n10, if_neg n10, nI_1 row, sI_n (by omega), sI_n (by omega), sI_n (by omega), c2 77 (by omega), h23, h24, h25]
  · have er : (@ite _ P (Classical.propDecidable _) (nt A row s) A) = A := if_neg hP
    rw [er, p01_f hP, if_pos rfl]
    refine ⟨_, ?_, fin A (nI A.1 + 0) (nI A.2.1) (nI A.2.2 &&& (-1)) (by rw [show (0 : Int32) = nI 0 from rfl, nI_add]; rfl) rfl (andm1 _ h256) h256⟩
    unfold m_X11_goThrough_240 m_X11_goThrough_244 m_X11_goThrough_263 m_X11_goThrough_282 g_lt
    dsimp only
    rw [if_pos rfl, if_pos rfl, nI_1 row, sI_n (by omega), sI_n (by omega), sI_n (by omega), c2 77 (by omega), h23, h24, h25]
theorem lO_cnt {w : Tw} {L : Nat} {T : Nat → Nat} {row : Nat} {A : Ac} {o : Option (Nw × Nat)} : (lO w L T row A o).1 ≤ A.1 + 1 := by
  cases o with
  | none => show A.1 ≤ _; omega
  | some x =>
    show (lf (tP w) L T x.1 A row x.2).1 ≤ _
    by_cases h : fitsV (tP w) L T x.1
    · rw [lf_t h]; exact Nat.le_refl _
    · rw [lf_f h]; omega
theorem r_g48 {d : Dt} {m N : Nat} {σ0 : g_St} (ok : OK d) (hK : 0 < tK (dT d)) (hm : m ≤ 4) (hN : 39 < N) (h : RR d σ0) : ∀ n row A σ fu, row + n = tK (dT d) ^ m → n < fu → A.1 + n < 10000 → GR σ0 A σ → ∃ τ, m_X11_goThrough_48 N fu (nI m) (nI (tK (dT d) ^ m)) (nI row) σ = some τ ∧ GR σ0 (fd (stR (dT d) (dLit d) (dTold d) m (dN d) 0) n row A) τ := by
  have hK8 : tK (dT d) ≤ 8 := ok.1.2.1
  have hP : tP (dT d) ≤ 6 := ok.1.1
  have hpw : tK (dT d) ^ m ≤ 4096 := Nat.le_trans (Nat.pow_le_pow_left hK8 m) (Nat.pow_le_pow_right (n := 8) (by omega) hm)
  intro n
  induction n with
  | zero =>
    intro row A σ fu hr hf hA1 hG
    obtain ⟨fu, rfl⟩ : ∃ f, fu = f + 1 := ⟨fu - 1, by omega⟩
    refine ⟨σ, ?_, hG⟩
    unfold m_X11_goThrough_48
    rw [if_pos (a_le row (by omega) (by omega))]
  | succ n ih =>
    intro row A σ fu hr hf hA1 hG
    obtain ⟨fu, rfl⟩ : ∃ f, fu = f + 1 := ⟨fu - 1, by omega⟩
    obtain ⟨g1, g2, g3, g4, g5, g6, g7, g8, g9⟩ := hG
    have hT : RT (dT d) (σ.1 79) := by rw [g3 79 (by omega) (by omega) (by omega)]; exact h.1.1
    have hR : RN (dT d) (dN d) (σ.1 81) := RN_ext ok.1 h.1.2.1 g2
    have hy : nY (dN d) ≤ 90200 := ok.2.1.1
    have hy2 : nY (dN d) + m < 1000000 := by
      generalize nY (dN d) = a at *
      omega
    obtain ⟨x, x4, x1, x2, x3, x5⟩ := r_g65 (N := N) (row := row) (x2 := nI (tK (dT d) ^ m)) (k48 := m_X11_goThrough_48 N fu) ok.1 hK hm (by omega) m 0 (dN d) 0 σ N (by omega) (by omega) ok.2.1.o hy2 (by omega) hT hR
    have hx79 : x.1 79 0 = nI (tP (dT d)) := by rw [x3 79 (by omega)]; exact hT.1
    have e48 : m_X11_goThrough_48 N (fu + 1) (nI m) (nI (tK (dT d) ^ m)) (nI row) σ = m_X11_goThrough_154 (m_X11_goThrough_48 N fu) N (nI m) (nI (tK (dT d) ^ m)) (nI row) x4 (rnF (rn (dT d) m (dN d) 0 row)) x := by
      rw [← x1]
      conv => lhs; unfold m_X11_goThrough_48
      rw [if_neg (a_nle (a := tK (dT d) ^ m) row (by omega) (by omega))]
      rfl
    have hcnt := lO_cnt (w := dT d) (L := dLit d) (T := dTold d) (row := row) (A := A) (o := rn (dT d) m (dN d) 0 row)
    have go : ∃ y, m_X11_goThrough_48 N (fu + 1) (nI m) (nI (tK (dT d) ^ m)) (nI row) σ = m_X11_goThrough_48 N fu (nI m) (nI (tK (dT d) ^ m)) (nI (row + 1)) y ∧ GR σ0 (stR (dT d) (dLit d) (dTold d) m (dN d) 0 row A) y := by
      rw [e48]
      unfold m_X11_goThrough_154 stR
      cases hrn : rn (dT d) m (dN d) 0 row with
      | none =>
        obtain ⟨y, y1, y2⟩ := r_end (σ0 := σ0) (σ := x) (A := A) (N := N) (m := m) (row := row) (s := 0) (x2 := nI (tK (dT d) ^ m)) (k48 := m_X11_goThrough_48 N fu) (P := False) (x4 := x4) hN (by omega) (fun j hj => by rw [x3 86 (by omega)]; exact g1 j hj) (fun c c1 c2 c3 => by rw [x3 c c2]; exact g3 c c1 c2 c3) (fun j hj => by rw [x3 77 (by omega)]; exact g4 j hj) (x5.trans g5) (by rw [x3 77 (by omega)]; exact g6) (by rw [x3 77 (by omega)]; exact g7) (by rw [x3 77 (by omega)]; exact g8) g9 (fun z => z.elim)
        rw [p01_f id] at y1
        refine ⟨y, ?_, ?_⟩
        · rw [← y1]
          exact r_g157z hP hx79 (tP (dT d)) 0 N (by omega) (by omega)
        · have er : (@ite _ False (Classical.propDecidable _) (nt A row 0) A) = A := if_neg id
          rw [er] at y2
          exact y2
      | some vs =>
        obtain ⟨v', s'⟩ := vs
        obtain ⟨q1, q2, q3, q4⟩ := x2 v' s' hrn
        obtain ⟨y, y1, y2⟩ := r_end (σ0 := σ0) (σ := x) (A := A) (N := N) (m := m) (row := row) (s := s') (x2 := nI (tK (dT d) ^ m)) (k48 := m_X11_goThrough_48 N fu) (P := ∀ q, q < tP (dT d) → 0 ≤ q → bt (dLit d) q = true → nA v' q = dTold d q) (x4 := x4) hN (by omega) (fun j hj => by rw [x3 86 (by omega)]; exact g1 j hj) (fun c c1 c2 c3 => by rw [x3 c c2]; exact g3 c c1 c2 c3) (fun j hj => by rw [x3 77 (by omega)]; exact g4 j hj) (x5.trans g5) (by rw [x3 77 (by omega)]; exact g6) (by rw [x3 77 (by omega)]; exact g7) (by rw [x3 77 (by omega)]; exact g8) g9 (fun _ => q1)
        refine ⟨y, ?_, ?_⟩
        · rw [← y1]
          exact r_g157 ok hx79 (by rw [x3 77 (by omega), g4 19 (by omega)]; exact h.2.2.2.2.2.1) (fun p hp hb => by rw [x3 90 (by omega), g3 90 (by omega) (by omega) (by omega)]; exact h.2.2.2.2.2.2.1 p hp hb) q2 q3 (tP (dT d)) 0 N (by omega) (by omega)
        · show GR σ0 (lf (tP (dT d)) (dLit d) (dTold d) v' A row s') y
          by_cases hf : fitsV (tP (dT d)) (dLit d) (dTold d) v'
          · rw [lf_t hf]
            have er : (@ite _ (∀ q, q < tP (dT d) → 0 ≤ q → bt (dLit d) q = true → nA v' q = dTold d q) (Classical.propDecidable _) (nt A row s') A) = nt A row s' := if_pos (fun q h1 _ h2 => hf q h1 h2)
            rw [er] at y2
            exact y2
          · rw [lf_f hf]
            have er : (@ite _ (∀ q, q < tP (dT d) → 0 ≤ q → bt (dLit d) q = true → nA v' q = dTold d q) (Classical.propDecidable _) (nt A row s') A) = A := if_neg (fun z => hf (fun q h1 h2 => z q h1 (by omega) h2))
            rw [er] at y2
            exact y2
    obtain ⟨y, y1, y2⟩ := go
    rw [y1, fd_s]
    have hc2 : (stR (dT d) (dLit d) (dTold d) m (dN d) 0 row A).1 ≤ A.1 + 1 := hcnt
    exact ih (row + 1) _ y fu (by omega) (by omega) (by omega) y2
theorem r_g4 {K m N : Nat} {σ : g_St} (h1 : σ.1 79 1 = nI K) (hm : m ≤ 4) : ∀ j k fu, k + j = m → j < fu → m_X11_goThrough_4 N fu (nI m) (nI (K ^ k)) (nI k) σ = m_X11_goThrough_4 N (fu - j) (nI m) (nI (K ^ m)) (nI m) σ := by
  intro j
  induction j with
  | zero =>
    intro k fu hk hf
    rw [show k = m by omega, Nat.sub_zero]
  | succ j ih =>
    intro k fu hk hf
    obtain ⟨fu, rfl⟩ : ∃ f, fu = f + 1 := ⟨fu - 1, by omega⟩
    conv => lhs; unfold m_X11_goThrough_4 g_lt
    rw [if_neg (a_nle (a := m) k (by omega) (by omega)), h1, pk_mul, ← Nat.pow_succ, nI_1]
    have := ih (k + 1) fu (by omega) (by omega)
    rw [show fu + 1 - (j + 1) = fu - j by omega]
    exact this
theorem r_through {d : Dt} {m N : Nat} {σ : g_St} (ok : OK d) (hK : 0 < tK (dT d)) (hm : m ≤ 4) (hN : 5000 < N) (h : RR d σ) : ∃ τ, m_X11_goThrough N (nI m) σ = some τ ∧ RR d τ ∧ keepC σ τ ∧ τ.1 77 23 = nI (rsA d m).1 ∧ τ.1 77 24 = nI (rsA d m).2.1 ∧ τ.1 77 25 = nI (rsA d m).2.2 := by
  have hK8 : tK (dT d) ≤ 8 := ok.1.2.1
  have hpw : tK (dT d) ^ m ≤ 4096 := Nat.le_trans (Nat.pow_le_pow_left hK8 m) (Nat.pow_le_pow_right (n := 8) (by omega) hm)
  have hal := all_lt hK8
  obtain ⟨σ1, e1⟩ : ∃ s, s = cpS (g_sI (g_sI (g_sI σ 77 23 0) 77 24 0) 77 25 (nI (2 ^ tK (dT d) - 1))) 86 81 0 0 0 39 := ⟨_, rfl⟩
  have hG : GR σ (A0 d) σ1 := by
    rw [e1]
    refine ⟨fun j hj => ?_, fun j hj => ?_, fun c c1 c2 c3 => ?_, fun j hj => ?_, ?_, ?_, ?_, ?_, hal⟩
    · rw [aside_at hj]; simp (disch := omega) only [sI_o, sI_k, sI_n, sA_o, sA_s, sI_2, sA_2, sL_1, sL_o]
    · rw [cpS_o (by omega)]; simp (disch := omega) only [sI_o, sI_k, sI_n, sA_o, sA_s, sI_2, sA_2, sL_1, sL_o]
    · rw [cpS_o c3]; simp (disch := omega) only [sI_o, sI_k, sI_n, sA_o, sA_s, sI_2, sA_2, sL_1, sL_o]
    · rw [cpS_o (by omega), sI_n (by omega), sI_n (by omega), sI_n (by omega)]
    · rw [cpS_2]; rfl
    · rw [cpS_o (by omega), sI_n (by omega), sI_n (by omega), sI_k]; rfl
    · rw [cpS_o (by omega), sI_n (by omega), sI_k]; rfl
    · rw [cpS_o (by omega), sI_k]
  obtain ⟨τ, t1, t2⟩ := r_g48 (N := N) ok hK hm (by omega) h (tK (dT d) ^ m) 0 (A0 d) σ1 N (by omega) (by omega) (by show 0 + _ < _; omega) hG
  have e := ref_dfs (w := dT d) (L := dLit d) (T := dTold d) m (dN d) 0 0 (A0 d)
  rw [Nat.zero_mul] at e
  rw [e] at t2
  obtain ⟨g1, g2, g3, g4, g5, g6, g7, g8, g9⟩ := t2
  refine ⟨τ, ?_, RR_3 ok h g2 g4 g3, fun c hc => ⟨g3 c (by omega) (by omega) (by omega), by rw [g5]⟩, g6, g7, g8⟩
  unfold m_X11_goThrough
  rw [show (1 : Int32) = nI (tK (dT d) ^ 0) from rfl, show (0 : Int32) = nI 0 from rfl, r_g4 h.1.1.2.1 hm m 0 N (by omega) (by omega)]
  obtain ⟨M, hM⟩ : ∃ M, N - m = M + 1 := ⟨N - m - 1, by omega⟩
  rw [hM]
  unfold m_X11_goThrough_4 m_X11_all g_lt
  dsimp only
  rw [if_pos (a_le m (Nat.le_refl _) (by omega)), Option.bind_some]
  dsimp only
  rw [sI_o (show 79 ≠ 77 by omega), sI_o (show 79 ≠ 77 by omega), h.1.1.2.1, u_all (tK (dT d)) (by omega), r_asides (by omega), Option.bind_some, ← e1]
  exact t1

theorem r_r74 {K i N : Nat} {σ : g_St} (hK : 0 < K) (hK8 : K ≤ 8) (h1 : σ.1 79 1 = nI K) : ∀ n r k fu, i + n = k → k ≤ 4 → n < fu → r < 100000 → m_X11_rows_74 N fu (nI i) (nI r) (nI k) σ = some (nI (r / K ^ n % K), σ) := by
  intro n
  induction n with
  | zero =>
    intro r k fu hk hk4 hf hr
    obtain ⟨fu, rfl⟩ : ∃ f, fu = f + 1 := ⟨fu - 1, by omega⟩
    unfold m_X11_rows_74
    rw [if_pos (a_le i (by omega) (by omega)), h1, if_neg (nI_ne0 hK (by omega)), pk_rem (by omega) hK (by omega), Nat.pow_zero, Nat.div_one]
  | succ n ih =>
    intro r k fu hk hk4 hf hr
    obtain ⟨fu, rfl⟩ : ∃ f, fu = f + 1 := ⟨fu - 1, by omega⟩
    obtain ⟨k, rfl⟩ : ∃ j, k = j + 1 := ⟨k - 1, by omega⟩
    have hd : r / K ≤ r := Nat.div_le_self _ _
    unfold m_X11_rows_74 g_lt
    rw [if_neg (a_nle (a := k + 1) i (by omega) (by omega)), h1, if_neg (nI_ne0 hK (by omega)), pk_div (by omega) hK (by omega), em1, nI_pred]
    dsimp only
    rw [ih (r / K) k fu (by omega) (by omega) (by omega) (by omega), Nat.div_div_eq_div_mul, ← Nat.pow_succ']
theorem dfs_b {w : Tw} {L : Nat} {T : Nat → Nat} {b : Nat} : ∀ j v r s A, (r + 1) * tK w ^ j ≤ b → A.2.1 < b → A.2.2 < 256 → (dfs w L T j v r s A).2.1 < b ∧ (dfs w L T j v r s A).2.2 < 256
  | 0, v, r, s, A, hr, hA, hA2 => by
    rw [Nat.pow_zero, Nat.mul_one] at hr
    show (lf (tP w) L T v A r s).2.1 < b ∧ (lf (tP w) L T v A r s).2.2 < 256
    by_cases h : fitsV (tP w) L T v
    · rw [lf_t h]
      refine ⟨?_, nt_lt hA2⟩
      unfold nt
      dsimp only
      split <;> omega
    · rw [lf_f h]; exact ⟨hA, hA2⟩
  | j + 1, v, r, s, A, hr, hA, hA2 => by
    rw [dfs_s]
    have key : ∀ n t B, t + n = tK w → B.2.1 < b → B.2.2 < 256 → (fd (fun t B => if bt (nS v) t = true then dfs w L T j (drawn w (tR w) v t) (r * tK w + t) (st1 s t) B else B) n t B).2.1 < b ∧ (fd (fun t B => if bt (nS v) t = true then dfs w L T j (drawn w (tR w) v t) (r * tK w + t) (st1 s t) B else B) n t B).2.2 < 256 := by
      intro n
      induction n with
      | zero => intro t B _ h1 h2; exact ⟨h1, h2⟩
      | succ n ih =>
        intro t B ht h1 h2
        rw [fd_s]
        by_cases hb : bt (nS v) t = true
        · have hle : (r * tK w + t + 1) * tK w ^ j ≤ b := by
            refine Nat.le_trans ?_ hr
            rw [Nat.pow_succ, Nat.mul_comm (tK w ^ j) (tK w), ← Nat.mul_assoc]
            refine Nat.mul_le_mul_right _ ?_
            rw [Nat.succ_mul]
            omega
          have h3 := dfs_b (L := L) (T := T) j (drawn w (tR w) v t) (r * tK w + t) (st1 s t) B hle h1 h2
          rw [if_pos hb]
          exact ih (t + 1) _ (by omega) h3.1 h3.2
        · rw [if_neg hb]
          exact ih (t + 1) _ (by omega) h1 h2
    exact key (tK w) 0 A (by omega) hA hA2
theorem rs_b {d : Dt} {m : Nat} (ok : OK d) (hK : 0 < tK (dT d)) (hm : m ≤ 4) : (rsA d m).1 ≤ 4096 ∧ (rsA d m).2.1 < 4096 + 1 ∧ (rsA d m).2.2 < 256 := by
  have hK8 : tK (dT d) ≤ 8 := ok.1.2.1
  have hpw : tK (dT d) ^ m ≤ 4096 := Nat.le_trans (Nat.pow_le_pow_left hK8 m) (Nat.pow_le_pow_right (n := 8) (by omega) hm)
  have h1 := dfs_cnt (w := dT d) (L := dLit d) (T := dTold d) m (dN d) 0 0 (A0 d)
  have h2 := dfs_b (w := dT d) (L := dLit d) (T := dTold d) (b := 4096 + 1) m (dN d) 0 0 (A0 d) (by rw [Nat.zero_add, Nat.one_mul]; omega) (by show 0 < _; omega) (all_lt hK8)
  have e : (A0 d).1 = 0 := rfl
  refine ⟨?_, h2⟩
  show (dfs (dT d) (dLit d) (dTold d) m (dN d) 0 0 (A0 d)).1 ≤ 4096
  omega
noncomputable def rwA (d : Dt) (m : Nat) (i : Int32) : Int32 := if i = -1 then nI (rsA d m).1 else if (rsA d m).1 = 0 then -1 else if 0 ≤ i ∧ i < nI m then nI (dK2 (tK (dT d)) m (rsA d m).2.1 i.toNatClampNeg) else -1
theorem sp_rows (N : Nat) (hN : 5000 < N) (x y : Int32) : Sp (m_X10_rows N x y) (m_X11_rows N x y) := by
  intro d ok
  have hK8 : tK (dT d) ≤ 8 := ok.1.2.1
  have e1 : (1 : Int64) = (nI 1).toInt64 := by decide
  have e4 : (4 : Int64) = (nI 4).toInt64 := by decide
  have e0 : (0 : Int64) = (nI 0).toInt64 := by decide
  rcases rng_cases x 1 4 (by omega) (by omega) with ⟨m, h1, h2, rfl⟩ | hx
  · have hr : nI 1 ≤ nI m ∧ nI m ≤ nI 4 := ⟨a_le m h1 (by omega), a_le 4 h2 (by omega)⟩
    by_cases hK0 : tK (dT d) = 0
    · refine ⟨-1000000003, d, ok, fun σ h => ⟨σ, ?_, h, keepR_rf σ⟩, fun σ h => ⟨σ, ?_, h, keepC_rf σ⟩⟩
      · unfold m_X10_rows
        rw [if_neg (show ¬ nI m < (1 : Int32) from a_nlt 1 h1 (by omega)), if_pos (show nI m ≤ (4 : Int32) from hr.2), h.1.1.2.1, hK0, if_pos (show nI 0 = 0 from rfl)]
      · unfold m_X11_rows
        rw [e1, e4, r_inR, Option.bind_some]
        dsimp only
        rw [if_pos hr, if_neg n10, h.1.1.2.1, hK0, if_pos (show nI 0 = 0 from rfl)]
    · have hK : 0 < tK (dT d) := by omega
      obtain ⟨b1, b2, b3⟩ := rs_b ok hK h2
      have hci : (∃ i, i < m ∧ y = nI i) ∨ (y < 0 ∨ nI m ≤ y) := i_cases y m (by omega)
      refine ⟨rwA d m y, d, ok, fun σ h => ?_, fun σ h => ?_⟩
      · obtain ⟨τ, t1, t2, t3, t4, t5⟩ := c_search (N := N) ok hK h2 (by omega) h
        refine ⟨τ, ?_, t4, t5⟩
        unfold m_X10_rows
        rw [if_neg (show ¬ nI m < (1 : Int32) from a_nlt 1 h1 (by omega)), if_pos (show nI m ≤ (4 : Int32) from hr.2), h.1.1.2.1, if_neg (nI_ne0 hK (by omega)), t1, Option.bind_some, t2.1]
        unfold rwA
        by_cases hy : y = -1
        · rw [if_pos hy, if_pos hy]
        · rw [if_neg hy, if_neg hy]
          unfold m_X1_firstAt
          rw [t2.1]
          by_cases hz : (rsA d m).1 = 0
          · rw [if_pos hz, hz, if_pos (show nI 0 = 0 from rfl), Option.bind_some]
          · rw [if_neg hz, if_neg (nI_ne0 (by omega) (by omega)), t3]
            rcases hci with ⟨i, hi, rfl⟩ | q
            · rw [if_neg (nI_pos (by omega)), if_pos (a_lt m hi (by omega)), if_pos (a_in (show i < 4 by omega) (by omega)), if_pos ⟨nI_pos' (by omega), a_lt m hi (by omega)⟩, nI_clamp (by omega), t2.2.2 hz i hi, Option.bind_some]
            · have hn : ¬ (0 ≤ y ∧ y < nI m) := fun z => q.elim (fun w => absurd z.1 (Int32.not_le.mpr w)) (fun w => absurd z.2 (Int32.not_lt.mpr w))
              rw [if_neg hn]
              by_cases q1 : y < 0
              · rw [if_pos q1, Option.bind_some]
              · rw [if_neg q1, if_neg (Int32.not_lt.mpr (q.resolve_left q1)), Option.bind_some]
      · obtain ⟨τ, t1, t2, t3, t4, t5, t6⟩ := r_through (N := N) ok hK h2 hN h
        refine ⟨τ, ?_, t2, t3⟩
        unfold m_X11_rows g_lt
        rw [e1, e4, r_inR, Option.bind_some]
        dsimp only
        rw [if_pos hr, if_neg n10, h.1.1.2.1, if_neg (nI_ne0 hK (by omega)), t1, Option.bind_some, t4]
        unfold rwA
        by_cases hy : y = -1
        · rw [if_pos hy, if_pos hy]
        · rw [if_neg hy, if_neg hy]
          by_cases hz : (rsA d m).1 = 0
          · rw [if_pos hz, hz, if_pos (show nI 0 = 0 from rfl)]
          · rw [if_neg hz, if_neg (nI_ne0 (by omega) (by omega))]
            have ein : m_X11_in y.toInt64 (0 : Int64) (nI m - (1 : Int32)).toInt64 τ = some (if g_in y m then 1 else 0, τ) := r_inN y m (by omega) τ
            rw [ein, Option.bind_some]
            dsimp only
            rcases hci with ⟨i, hi, rfl⟩ | q
            · obtain ⟨m', rfl⟩ : ∃ j, m = j + 1 := ⟨m - 1, by omega⟩
              rw [if_pos (a_in hi (by omega)), if_neg n10, if_pos ⟨nI_pos' (by omega), a_lt _ hi (by omega)⟩, nI_clamp (by omega), t5, nI_pred, r_r74 hK hK8 t2.1.1.2.1 (m' - i) _ m' N (by omega) (by omega) (by omega) (by omega)]
              unfold dK2
              rw [show m' + 1 - 1 - i = m' - i by omega]
            · have hn : ¬ (0 ≤ y ∧ y < nI m) := fun z => q.elim (fun w => absurd z.1 (Int32.not_le.mpr w)) (fun w => absurd z.2 (Int32.not_lt.mpr w))
              rw [if_neg hn, if_neg (a_out (by omega) q), if_pos rfl]
  · refine ⟨-1000000002, d, ok, fun σ h => ⟨σ, ?_, h, keepR_rf σ⟩, fun σ h => ⟨σ, ?_, h, keepC_rf σ⟩⟩
    · unfold m_X10_rows
      by_cases q : x < 1
      · rw [if_pos q]
      · rw [if_neg q, if_neg (show ¬ x ≤ (4 : Int32) from fun q2 => hx ⟨lt_nle q, q2⟩)]
    · unfold m_X11_rows
      rw [e1, e4, r_inR, Option.bind_some]
      dsimp only
      rw [if_neg hx, if_pos rfl]
theorem sp_sure (N : Nat) (hN : 5000 < N) (x : Int32) : Sp (m_X10_sure N x) (m_X11_sure N x) := by
  intro d ok
  have hK8 : tK (dT d) ≤ 8 := ok.1.2.1
  have e1 : (1 : Int64) = (nI 1).toInt64 := by decide
  have e4 : (4 : Int64) = (nI 4).toInt64 := by decide
  rcases rng_cases x 1 4 (by omega) (by omega) with ⟨m, h1, h2, rfl⟩ | hx
  · have hr : nI 1 ≤ nI m ∧ nI m ≤ nI 4 := ⟨a_le m h1 (by omega), a_le 4 h2 (by omega)⟩
    by_cases hK0 : tK (dT d) = 0
    · refine ⟨-1000000003, d, ok, fun σ h => ⟨σ, ?_, h, keepR_rf σ⟩, fun σ h => ⟨σ, ?_, h, keepC_rf σ⟩⟩
      · unfold m_X10_sure
        rw [if_neg (show ¬ nI m < (1 : Int32) from a_nlt 1 h1 (by omega)), if_pos (show nI m ≤ (4 : Int32) from hr.2), h.1.1.2.1, hK0, if_pos (show nI 0 = 0 from rfl)]
      · unfold m_X11_sure
        rw [e1, e4, r_inR, Option.bind_some]
        dsimp only
        rw [if_pos hr, if_neg n10, h.1.1.2.1, hK0, if_pos (show nI 0 = 0 from rfl)]
    · have hK : 0 < tK (dT d) := by omega
      obtain ⟨b1, b2, b3⟩ := rs_b ok hK h2
      refine ⟨if nI (rsA d m).1 = 0 then 0 else nI (rsA d m).2.2, d, ok, fun σ h => ?_, fun σ h => ?_⟩
      · obtain ⟨τ, t1, t2, t3, t4, t5⟩ := c_search (N := N) ok hK h2 (by omega) h
        refine ⟨τ, ?_, t4, t5⟩
        unfold m_X10_sure
        rw [if_neg (show ¬ nI m < (1 : Int32) from a_nlt 1 h1 (by omega)), if_pos (show nI m ≤ (4 : Int32) from hr.2), h.1.1.2.1, if_neg (nI_ne0 hK (by omega)), t1, Option.bind_some, t2.1, t2.2.1]
        split <;> rfl
      · obtain ⟨τ, t1, t2, t3, t4, t5, t6⟩ := r_through (N := N) ok hK h2 hN h
        refine ⟨τ, ?_, t2, t3⟩
        unfold m_X11_sure
        rw [e1, e4, r_inR, Option.bind_some]
        dsimp only
        rw [if_pos hr, if_neg n10, h.1.1.2.1, if_neg (nI_ne0 hK (by omega)), t1, Option.bind_some, t4, t6]
        split <;> rfl
  · refine ⟨-1000000002, d, ok, fun σ h => ⟨σ, ?_, h, keepR_rf σ⟩, fun σ h => ⟨σ, ?_, h, keepC_rf σ⟩⟩
    · unfold m_X10_sure
      by_cases q : x < 1
      · rw [if_pos q]
      · rw [if_neg q, if_neg (show ¬ x ≤ (4 : Int32) from fun q2 => hx ⟨lt_nle q, q2⟩)]
    · unfold m_X11_sure
      rw [e1, e4, r_inR, Option.bind_some]
      dsimp only
      rw [if_neg hx, if_pos rfl]
