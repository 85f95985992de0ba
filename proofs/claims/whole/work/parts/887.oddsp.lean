/-! odds, never: the calls -/
theorem OK_FR {d : Dt} (ok : OK d) (q : tR (dT d) = 1) : nS (dN d) = 2 ^ tK (dT d) - 1 := (ok.2.2.1.2 q).1
theorem own_lt {d : Dt} (ok : OK d) (p : Nat) : ownS d p < 256 := by
  have h1 := setP_lt (fun t => who (dN d) t == p) (tK (dT d))
  have h2 := pow8 ok.1.2.1
  exact Nat.lt_of_lt_of_le h1 h2
theorem sp_odds (N : Nat) (hN : 300 < N) (x y : Int32) : Sp (m_X10_odds N x y) (m_X11_odds N x y) := by
  intro d ok
  have hP6 : tP (dT d) ≤ 6 := ok.1.1
  have hK8 : tK (dT d) ≤ 8 := ok.1.2.1
  have hp := pow8 hK8
  have e0 : (0 : Int64) = (nI 0).toInt64 := by decide
  have e8 : (8 : Int64) = (nI 8).toInt64 := by decide
  rcases i_cases x (tP (dT d)) (by omega) with ⟨p, hpP, rfl⟩ | hx
  · have hin : g_in (nI p) (tP (dT d)) := a_in hpP (by omega)
    rcases rng_cases y 0 8 (by omega) (by omega) with ⟨v, h1, h2, rfl⟩ | hy
    · have hD : nS (dN d) < 2 ^ tK (dT d) := ok.2.1.2.2.1
      have hY8 := ok.1.2.2.2.1
      have hDY := ok.2.1.2.1
      have hn : tY (dT d) - nD (dN d) ≤ 8 := by omega
      have hM := own_lt ok p
      refine ⟨nI (OD (dT d) (nS (dN d)) (ownS d p) v (tY (dT d) - nD (dN d))), d, ok, fun σ h => ?_, fun σ h => ?_⟩
      · obtain ⟨x, x1, x2, x3, x4⟩ := c_begin (n := tY (dT d) - nD (dN d)) ok.1 hD hn hN h.1.1
        have hCx : CC d x := CC_ch h (fun c hc => x3 c (by omega) (by omega))
        obtain ⟨τ, t1, t2, t3, t4⟩ := c_atLeast (M := ownS d p) (v := v) ok.1 hD (OK_FR ok) hM (by omega) hn hN hCx.1.1 x2
        refine ⟨τ, ?_, CC_ch hCx (fun c _ => by rw [t3]), fun c hc => ⟨by rw [t3, x3 c (by omega) (by omega)], by rw [t4 c (by omega), x4 c (by omega)]⟩⟩
        unfold m_X10_odds
        rw [c_isP (nI p) h.1.1.1 (by omega), Option.bind_some]
        dsimp only
        rw [if_pos hin, if_neg n10, if_neg (nI_pos (by omega)), if_pos (show nI v ≤ (8 : Int32) from a_le 8 h2 (by omega)), h.1.2.1.2.2.1, h.1.1.2.2.1, h.1.2.1.2.1, pk_sub (by omega), x1, Option.bind_some, hCx.1.1.2.1, c_age ok.1 ok.2.1 hCx.1.2.1 (by omega) (by omega), Option.bind_some]
        dsimp only
        rw [t1, Option.bind_some]
        dsimp only
        rw [lN_i]
      · obtain ⟨τ, t1, t2, t3⟩ := r_oddsOf (D := nS (dN d)) (M := ownS d p) (v := v) (n := tY (dT d) - nD (dN d)) ok.1 (by omega) hM h2 hn hN h.1.1
        refine ⟨τ, ?_, RR_fr h (fun c _ c1 c2 c3 _ _ _ => t2 c c1 c2 c3), fun c hc => ⟨t2 c (by omega) (by omega) (by omega), by rw [t3]⟩⟩
        unfold m_X11_odds
        rw [r_isP (nI p) h.1.1.1 (by omega), Option.bind_some]
        dsimp only
        rw [if_pos hin, if_neg n10, e0, e8, r_inR, Option.bind_some]
        dsimp only
        rw [if_pos (show nI 0 ≤ nI v ∧ nI v ≤ nI 8 from ⟨a_le v h1 (by omega), a_le 8 h2 (by omega)⟩), if_neg n10, r_own ok.1 ok.2.1 h.1.1.2.1 h.1.2.1 (by omega) (by omega), Option.bind_some]
        unfold m_X11_rest
        rw [Option.bind_some]
        dsimp only
        rw [h.1.1.2.2.1, h.1.2.1.2.1, h.1.2.1.2.2.1, pk_sub (by omega), t1, Option.bind_some]
    · refine ⟨-1000000002, d, ok, fun σ h => ⟨σ, ?_, h, keepR_rf σ⟩, fun σ h => ⟨σ, ?_, h, keepC_rf σ⟩⟩
      · unfold m_X10_odds
        rw [c_isP (nI p) h.1.1.1 (by omega), Option.bind_some]
        dsimp only
        rw [if_pos hin, if_neg n10]
        by_cases q : y < 0
        · rw [if_pos q]
        · rw [if_neg q, if_neg (show ¬ y ≤ (8 : Int32) from fun q2 => hy ⟨lt_nle q, q2⟩)]
      · unfold m_X11_odds
        rw [r_isP (nI p) h.1.1.1 (by omega), Option.bind_some]
        dsimp only
        rw [if_pos hin, if_neg n10, e0, e8, r_inR, Option.bind_some]
        dsimp only
        rw [if_neg hy, if_pos rfl]
  · have hout : ¬ g_in x (tP (dT d)) := a_out (by omega) hx
    refine ⟨-1000000001, d, ok, fun σ h => ⟨σ, ?_, h, keepR_rf σ⟩, fun σ h => ⟨σ, ?_, h, keepC_rf σ⟩⟩
    · unfold m_X10_odds
      rw [c_isP x h.1.1.1 (by omega), Option.bind_some]
      dsimp only
      rw [if_neg hout, if_pos rfl]
    · unfold m_X11_odds
      rw [r_isP x h.1.1.1 (by omega), Option.bind_some]
      dsimp only
      rw [if_neg hout, if_pos rfl]
def nvF (q : Int64) : Nat → Int64 → Int64
  | 0, a => a
  | m + 1, a => nvF q m ((a * q) / 1000000000)
theorem c_nv {N n : Nat} {q : Int64} {σ : g_St} (hn : n ≤ 99) : ∀ m k a fu, k + m = n → m < fu → m_X10_never_90 N fu (nI n) q a (nI k) σ = some ((nvF q m a).toInt32, σ) := by
  intro m
  induction m with
  | zero =>
    intro k a fu hk hf
    obtain ⟨fu, rfl⟩ : ∃ f, fu = f + 1 := ⟨fu - 1, by omega⟩
    unfold m_X10_never_90
    rw [if_pos (a_le k (by omega) (by omega))]; rfl
  | succ m ih =>
    intro k a fu hk hf
    obtain ⟨fu, rfl⟩ : ∃ f, fu = f + 1 := ⟨fu - 1, by omega⟩
    unfold m_X10_never_90 g_lt
    rw [if_neg (a_nle (a := n) k (by omega) (by omega)), nI_1]
    exact ih (k + 1) _ fu (by omega) (by omega)
theorem r_nv {N n : Nat} {q : Int64} {σ : g_St} (hn : n ≤ 99) : ∀ m k a fu, k + m = n → m < fu → m_X11_never_59 N fu (nI n) q a (nI k) σ = some ((nvF q m a).toInt32, σ) := by
  intro m
  induction m with
  | zero =>
    intro k a fu hk hf
    obtain ⟨fu, rfl⟩ : ∃ f, fu = f + 1 := ⟨fu - 1, by omega⟩
    unfold m_X11_never_59
    rw [if_pos (a_le k (by omega) (by omega))]; rfl
  | succ m ih =>
    intro k a fu hk hf
    obtain ⟨fu, rfl⟩ : ∃ f, fu = f + 1 := ⟨fu - 1, by omega⟩
    unfold m_X11_never_59 g_lt
    rw [if_neg (a_nle (a := n) k (by omega) (by omega)), nI_1]
    exact ih (k + 1) _ fu (by omega) (by omega)
theorem sp_never (N : Nat) (hN : 300 < N) (x y : Int32) : Sp (m_X10_never N x y) (m_X11_never N x y) := by
  intro d ok
  have hP6 : tP (dT d) ≤ 6 := ok.1.1
  have hK8 : tK (dT d) ≤ 8 := ok.1.2.1
  have hp := pow8 hK8
  have e0 : (1 : Int64) = (nI 1).toInt64 := by decide
  have e8 : (99 : Int64) = (nI 99).toInt64 := by decide
  rcases i_cases x (tP (dT d)) (by omega) with ⟨p, hpP, rfl⟩ | hx
  · have hin : g_in (nI p) (tP (dT d)) := a_in hpP (by omega)
    rcases rng_cases y 1 99 (by omega) (by omega) with ⟨v, h1, h2, rfl⟩ | hy
    · have hD : 2 ^ tK (dT d) - 1 < 2 ^ tK (dT d) := by have := two_pos (tK (dT d)); omega
      have hn := ok.1.2.2.2.1
      have hM := own_lt ok p
      have hle := OD_le (D := 2 ^ tK (dT d) - 1) (M := ownS d p) (v := 1) (n := tY (dT d)) ok.1 (by omega) hn
      refine ⟨(nvF (lN (1000000000 - OD (dT d) (2 ^ tK (dT d) - 1) (ownS d p) 1 (tY (dT d)))) v 1000000000).toInt32, d, ok, fun σ h => ?_, fun σ h => ?_⟩
      · obtain ⟨x, x1, x2, x3, x4⟩ := c_begin (n := tY (dT d)) ok.1 hD hn hN h.1.1
        have hCx : CC d x := CC_ch h (fun c hc => x3 c (by omega) (by omega))
        obtain ⟨τ, t1, t2, t3, t4⟩ := c_atLeast (M := ownS d p) (v := 1) ok.1 hD (fun _ => rfl) hM (by omega) hn hN hCx.1.1 x2
        refine ⟨τ, ?_, CC_ch hCx (fun c _ => by rw [t3]), fun c hc => ⟨by rw [t3, x3 c (by omega) (by omega)], by rw [t4 c (by omega), x4 c (by omega)]⟩⟩
        unfold m_X10_never
        rw [c_isP (nI p) h.1.1.1 (by omega), Option.bind_some]
        dsimp only
        rw [if_pos hin, if_neg n10, if_neg (show ¬ nI v < (1 : Int32) from a_nlt 1 h1 (by omega)), if_pos (show nI v ≤ (99 : Int32) from a_le 99 h2 (by omega))]
        unfold m_X7_everyTicket g_lt
        rw [Option.bind_some]
        dsimp only
        rw [h.1.1.2.1, u_all (tK (dT d)) (by omega), h.1.1.2.2.1, x1, Option.bind_some, hCx.1.1.2.1, c_age ok.1 ok.2.1 hCx.1.2.1 (by omega) (by omega), Option.bind_some]
        dsimp only
        rw [show (1 : Int32) = nI 1 from rfl, t1, Option.bind_some]
        dsimp only
        rw [show (1000000000 : Int64) - lN (OD (dT d) (2 ^ tK (dT d) - 1) (ownS d p) 1 (tY (dT d))) = lN (1000000000 - OD (dT d) (2 ^ tK (dT d) - 1) (ownS d p) 1 (tY (dT d))) from lN_sub hle]
        exact c_nv h2 v 0 _ N (by omega) (by omega)
      · obtain ⟨τ, t1, t2, t3⟩ := r_oddsOf (D := 2 ^ tK (dT d) - 1) (M := ownS d p) (v := 1) (n := tY (dT d)) ok.1 (by omega) hM (by omega) hn hN h.1.1
        refine ⟨τ, ?_, RR_fr h (fun c _ c1 c2 c3 _ _ _ => t2 c c1 c2 c3), fun c hc => ⟨t2 c (by omega) (by omega) (by omega), by rw [t3]⟩⟩
        unfold m_X11_never
        rw [r_isP (nI p) h.1.1.1 (by omega), Option.bind_some]
        dsimp only
        rw [if_pos hin, if_neg n10, e0, e8, r_inR, Option.bind_some]
        dsimp only
        rw [if_pos (show nI 1 ≤ nI v ∧ nI v ≤ nI 99 from ⟨a_le v h1 (by omega), a_le 99 h2 (by omega)⟩), if_neg n10, r_own ok.1 ok.2.1 h.1.1.2.1 h.1.2.1 (by omega) (by omega), Option.bind_some]
        unfold m_X11_all g_lt
        rw [Option.bind_some]
        dsimp only
        rw [h.1.1.2.1, u_all (tK (dT d)) (by omega), h.1.1.2.2.1, show (1 : Int32) = nI 1 from rfl, t1, Option.bind_some]
        dsimp only
        rw [show (1000000000 : Int32) - nI (OD (dT d) (2 ^ tK (dT d) - 1) (ownS d p) 1 (tY (dT d))) = nI (1000000000 - OD (dT d) (2 ^ tK (dT d) - 1) (ownS d p) 1 (tY (dT d))) from pk_sub hle, nI_l (by omega)]
        exact r_nv h2 v 0 _ N (by omega) (by omega)
    · refine ⟨-1000000002, d, ok, fun σ h => ⟨σ, ?_, h, keepR_rf σ⟩, fun σ h => ⟨σ, ?_, h, keepC_rf σ⟩⟩
      · unfold m_X10_never
        rw [c_isP (nI p) h.1.1.1 (by omega), Option.bind_some]
        dsimp only
        rw [if_pos hin, if_neg n10]
        by_cases q : y < 1
        · rw [if_pos q]
        · rw [if_neg q, if_neg (show ¬ y ≤ (99 : Int32) from fun q2 => hy ⟨lt_nle q, q2⟩)]
      · unfold m_X11_never
        rw [r_isP (nI p) h.1.1.1 (by omega), Option.bind_some]
        dsimp only
        rw [if_pos hin, if_neg n10, e0, e8, r_inR, Option.bind_some]
        dsimp only
        rw [if_neg hy, if_pos rfl]
  · have hout : ¬ g_in x (tP (dT d)) := a_out (by omega) hx
    refine ⟨-1000000001, d, ok, fun σ h => ⟨σ, ?_, h, keepR_rf σ⟩, fun σ h => ⟨σ, ?_, h, keepC_rf σ⟩⟩
    · unfold m_X10_never
      rw [c_isP x h.1.1.1 (by omega), Option.bind_some]
      dsimp only
      rw [if_neg hout, if_pos rfl]
    · unfold m_X11_never
      rw [r_isP x h.1.1.1 (by omega), Option.bind_some]
      dsimp only
      rw [if_neg hout, if_pos rfl]
