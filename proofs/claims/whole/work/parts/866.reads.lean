/-! spread; told, person, ticket -/
theorem r_spr_loop {σ : g_St} {P N : Nat} {a : Nat → Nat} (hP : σ.1 79 0 = nI P) (hP6 : P ≤ 6) (ha : ∀ p, p < P → σ.1 81 (3 + 2 * p) = nI (a p)) (hb : ∀ p, p < P → a p ≤ 999) : ∀ d p fu, p + d = P → d < fu → m_X11_spread_8 N fu (nI (mnA a p)) (nI (mxA a p)) (nI p) σ = some (nI (sprd a P), σ) := by
  intro d
  induction d with
  | zero =>
    intro p fu hp hf
    obtain ⟨fu, rfl⟩ : ∃ f, fu = f + 1 := ⟨fu - 1, by omega⟩
    unfold m_X11_spread_8
    rw [hP, if_pos (a_le p (by omega) (by omega))]
    have e : p = P := by omega
    subst e
    unfold sprd
    by_cases h0 : p = 0
    · subst h0
      rfl
    · rw [if_neg (show ¬ nI p = 0 from a_ne 0 h0 (by omega) (by omega)), if_neg h0]
      rcases mn_mx a p (by omega) with h | h
      · rw [pk_sub h]
      · have := hb 0 (by omega); omega
  | succ d ih =>
    intro p fu hp hf
    obtain ⟨fu, rfl⟩ : ∃ f, fu = f + 1 := ⟨fu - 1, by omega⟩
    have hn := ih (p + 1) fu (by omega) (by omega)
    have h1 := mnA_le a p
    have h2 := mxA_le (a := a) p (fun q hq => hb q (by omega))
    have h3 := hb p (by omega)
    unfold m_X11_spread_8
    rw [hP, if_neg (a_nle (a := P) p (by omega) (by omega)), e3, if_pos (a_in (by omega) (by omega)), nI_clamp (by omega), ha p (by omega)]
    unfold m_X11_spread_42 m_X11_spread_55 g_lt
    dsimp only
    rw [nI_1]
    rw [show mnA a (p + 1) = if a p < mnA a p then a p else mnA a p from rfl, show mxA a (p + 1) = if mxA a p < a p then a p else mxA a p from rfl] at hn
    by_cases c1 : a p < mnA a p
    · rw [if_neg (a_nle (a := mnA a p) (a p) (by omega) (by omega))]
      rw [if_pos c1] at hn
      by_cases c2 : mxA a p < a p
      · rw [if_neg (a_nle (a := a p) (mxA a p) (by omega) (by omega))]
        rw [if_pos c2] at hn
        exact hn
      · rw [if_pos (a_le (a := a p) (mxA a p) (by omega) (by omega))]
        rw [if_neg c2] at hn
        exact hn
    · rw [if_pos (a_le (a := mnA a p) (a p) (by omega) (by omega))]
      rw [if_neg c1] at hn
      by_cases c2 : mxA a p < a p
      · rw [if_neg (a_nle (a := a p) (mxA a p) (by omega) (by omega))]
        rw [if_pos c2] at hn
        exact hn
      · rw [if_pos (a_le (a := a p) (mxA a p) (by omega) (by omega))]
        rw [if_neg c2] at hn
        exact hn
theorem r_spr {σ : g_St} {P N : Nat} {a : Nat → Nat} (hP : σ.1 79 0 = nI P) (hP6 : P ≤ 6) (ha : ∀ p, p < P → σ.1 81 (3 + 2 * p) = nI (a p)) (hb : ∀ p, p < P → a p ≤ 999) (hN : 8 < N) : m_X11_spread N σ = some (nI (sprd a P), σ) := by
  unfold m_X11_spread
  exact r_spr_loop hP hP6 ha hb P 0 N (by omega) (by omega)
theorem c_spr_loop {σ : g_St} {P N : Nat} {a : Nat → Nat} (hP6 : P ≤ 6) (ha : ∀ p, p < P → σ.1 17 p = nI (a p)) (hb : ∀ p, p < P → a p ≤ 999) : ∀ d p fu, 0 < p → p + d = P → d < fu → m_X10_spreadOf_17_18 N fu (nI P) (nI (mnA a p)) (nI (mxA a p)) (nI p) σ = some (nI (sprd a P), σ) := by
  intro d
  induction d with
  | zero =>
    intro p fu h0 hp hf
    obtain ⟨fu, rfl⟩ : ∃ f, fu = f + 1 := ⟨fu - 1, by omega⟩
    unfold m_X10_spreadOf_17_18
    rw [if_pos (a_le p (by omega) (by omega))]
    have e : p = P := by omega
    subst e
    unfold sprd
    rw [if_neg (by omega)]
    rcases mn_mx a p (by omega) with h | h
    · rw [pk_sub h]
    · have := hb 0 (by omega); omega
  | succ d ih =>
    intro p fu h0 hp hf
    obtain ⟨fu, rfl⟩ : ∃ f, fu = f + 1 := ⟨fu - 1, by omega⟩
    have hn := ih (p + 1) fu (by omega) (by omega) (by omega)
    have h1 := mnA_le a p
    have h2 := mxA_le (a := a) p (fun q hq => hb q (by omega))
    have h3 := hb p (by omega)
    unfold m_X10_spreadOf_17_18 g_lt
    rw [if_neg (a_nle (a := P) p (by omega) (by omega)), if_pos (a_in (by omega) (by omega)), nI_clamp (by omega), ha p (by omega)]
    dsimp only
    rw [if_pos (a_in (by omega) (by omega)), nI_1]
    rw [show mnA a (p + 1) = if a p < mnA a p then a p else mnA a p from rfl, show mxA a (p + 1) = if mxA a p < a p then a p else mxA a p from rfl] at hn
    by_cases c1 : a p < mnA a p
    · rw [if_pos (a_lt (a := a p) (mnA a p) (by omega) (by omega))]
      rw [if_pos c1] at hn
      by_cases c2 : mxA a p < a p
      · rw [if_pos (a_lt (a := mxA a p) (a p) (by omega) (by omega))]
        rw [if_pos c2] at hn
        exact hn
      · rw [if_neg (a_nlt (a := mxA a p) (a p) (by omega) (by omega))]
        rw [if_neg c2] at hn
        exact hn
    · rw [if_neg (a_nlt (a := a p) (mnA a p) (by omega) (by omega))]
      rw [if_neg c1] at hn
      by_cases c2 : mxA a p < a p
      · rw [if_pos (a_lt (a := mxA a p) (a p) (by omega) (by omega))]
        rw [if_pos c2] at hn
        exact hn
      · rw [if_neg (a_nlt (a := mxA a p) (a p) (by omega) (by omega))]
        rw [if_neg c2] at hn
        exact hn
theorem c_spr {σ : g_St} {P N : Nat} {a : Nat → Nat} (hP6 : P ≤ 6) (ha : ∀ p, p < P → σ.1 17 p = nI (a p)) (hb : ∀ p, p < P → a p ≤ 999) (hN : 8 < N) : m_X10_spreadOf_17 N (nI P) σ = some (nI (sprd a P), σ) := by
  unfold m_X10_spreadOf_17 g_lt
  by_cases h0 : P = 0
  · subst h0
    rfl
  · have q : (1 : Int32) ≤ nI P := a_le (a := 1) P (by omega) (by omega)
    rw [if_pos q, ha 0 (by omega)]
    have h1 := hb 0 (by omega)
    have e1 : mnA a 1 = a 0 := by rw [show mnA a 1 = if a 0 < 9999 then a 0 else 9999 from rfl, if_pos (by omega)]
    have e2 : mxA a 1 = a 0 := by
      rw [show mxA a 1 = if 0 < a 0 then a 0 else 0 from rfl]
      by_cases h : 0 < a 0
      · rw [if_pos h]
      · rw [if_neg h]; omega
    have h := c_spr_loop (N := N) hP6 ha hb (P - 1) 1 N (by omega) (by omega) (by omega)
    rw [e1, e2] at h
    exact h
