/-! candles, tear, person, sell -/
theorem bt_st1 : ∀ L, L < 64 → ∀ p, p < 6 → ∀ q, q < 6 → bt (st1 L p) q = (bt L q || p == q) := by decide +kernel
theorem st1_lt : ∀ P, P < 7 → ∀ L, L < 2 ^ P → ∀ p, p < P → st1 L p < 2 ^ P := by decide +kernel
def pc8 (S : Nat) : Nat := wsm (fun _ => 1) S 8
theorem bc_256 : ∀ S, S < 256 → m_J6_bitCount (nI S) = fun σ => some (nI (pc8 S), σ) := by
  have h : ∀ S, S < 256 → (let x0 := nI S; let v1 := x0 - ((x0.toUInt32 >>> ((1 : Int32).toUInt32 &&& Int32.toUInt32 31)).toInt32 &&& (1431655765 : Int32)); let v2 := (v1 &&& (858993459 : Int32)) + ((v1.toUInt32 >>> ((2 : Int32).toUInt32 &&& Int32.toUInt32 31)).toInt32 &&& (858993459 : Int32)); let v3 := (v2 + (v2.toUInt32 >>> ((4 : Int32).toUInt32 &&& Int32.toUInt32 31)).toInt32) &&& (252645135 : Int32); let v4 := v3 + (v3.toUInt32 >>> ((8 : Int32).toUInt32 &&& Int32.toUInt32 31)).toInt32; let v5 := v4 + (v4.toUInt32 >>> ((16 : Int32).toUInt32 &&& Int32.toUInt32 31)).toInt32; (v5 &&& (63 : Int32))) = nI (pc8 S) := by decide +kernel
  intro S hS
  funext σ
  exact congrArg (fun z => some (z, σ)) (h S hS)
theorem mny_1 : ∀ S, S < 256 → 0 < S → nI S &&& (nI S - 1) = nI (S &&& (S - 1)) ∧ S &&& (S - 1) < 256 ∧ pc8 (S &&& (S - 1)) + 1 = pc8 S := by decide +kernel
theorem r_many_loop {σ : g_St} {N : Nat} : ∀ fu a S, S < 256 → pc8 S < fu → m_X11_many_4 N fu (nI a) (nI S) σ = some (nI (a + pc8 S), σ) := by
  intro fu
  induction fu with
  | zero => intro a S hS h; omega
  | succ fu ih =>
    intro a S hS h
    unfold m_X11_many_4 g_lt
    by_cases h0 : S = 0
    · subst h0
      rw [if_pos (show nI 0 = 0 from rfl)]
      rfl
    · obtain ⟨e1, e2, e3⟩ := mny_1 S hS (by omega)
      rw [if_neg (show ¬ nI S = 0 from a_ne 0 h0 (by omega) (by omega)), nI_1, e1]
      dsimp only
      rw [ih _ _ e2 (by omega), show a + 1 + pc8 (S &&& (S - 1)) = a + pc8 S by omega]
theorem pc8_le : ∀ S, S < 256 → pc8 S ≤ 8 := by decide +kernel
theorem r_many {σ : g_St} {N S : Nat} (hS : S < 256) (hN : 8 < N) : m_X11_many N (nI S) σ = some (nI (pc8 S), σ) := by
  unfold m_X11_many
  have h := r_many_loop (σ := σ) (N := N) N 0 S hS (by have := pc8_le S hS; omega)
  rw [Nat.zero_add] at h
  exact h
theorem pow6 {P : Nat} (h : P ≤ 6) : 2 ^ P ≤ 64 := Nat.pow_le_pow_right (n := 2) (by omega) h
set_option maxHeartbeats 1000000 in
theorem sp_candles (x y : Int32) : Sp (m_X10_candles x y) (m_X11_candles x y) := by
  intro d ok
  have hP6 : tP (dT d) ≤ 6 := ok.1.1
  have hL := ok.2.2.2.2.2.2.1.1
  have hL64 : dLit d < 64 := Nat.lt_of_lt_of_le hL (pow6 hP6)
  have e999 : (999 : Int64) = (nI 1000 - 1).toInt64 := by decide
  rcases i_cases x (tP (dT d)) (by omega) with ⟨p, hp, rfl⟩ | hx
  · have hin : g_in (nI p) (tP (dT d)) := a_in hp (by omega)
    have hi6 : g_in (nI p) 6 := a_in (by omega) (by omega)
    have hc : (nI p).toNatClampNeg = p := nI_clamp (by omega)
    rcases i_cases y 1000 (by omega) with ⟨m, hm, rfl⟩ | hy
    · have him : g_in (nI m) 1000 := a_in hm (by omega)
      have q1 : ¬ nI m < 0 := nI_pos (by omega)
      have q2 : nI m ≤ (999 : Int32) := a_le 999 (by omega) (by omega)
      have hrel : ∀ (f : Nat → Int32), (∀ q, q < tP (dT d) → bt (dLit d) q = true → f q = nI (dTold d q)) → ∀ q, q < tP (dT d) → bt (st1 (dLit d) p) q = true → upd f p (nI m) q = nI (va_up (dTold d) p m q) := fun f hf q hq hb => by
        by_cases e : q = p
        · subst e; rw [g_up_s]; simp [upd]
        · rw [g_up_n _ _ e]
          have : upd f p (nI m) q = f q := by simp [upd, e]
          rw [this]
          refine hf q hq ?_
          rw [bt_st1 _ hL64 p (by omega) q (by omega)] at hb
          simpa [Ne.symm e] using hb
      obtain ⟨o1, o2, o3, o4, o5, o6, o7, o8⟩ := ok
      refine ⟨nI (st1 (dLit d) p), dsLit d (st1 (dLit d) p) (va_up (dTold d) p m), ⟨o1, o2, o3, o4, o5, o6, ⟨st1_lt (tP (dT d)) (by omega) _ hL p hp, fun q hq => ?_⟩, o8⟩, fun σ h => ?_, fun σ h => ?_⟩
      · show va_up (dTold d) p m q ≤ 999
        by_cases e : q = p
        · subst e; rw [g_up_s]; omega
        · rw [g_up_n _ _ e]; exact o7.2 q hq
      · obtain ⟨⟨a1, a2, a3⟩, h2, h3, h4, h5, h6, h7, h8, h9, h10, h11, h12⟩ := h
        refine ⟨g_sI (g_sI σ 70 p (nI m)) 69 4 (nI (st1 (dLit d) p)), ?_, ⟨⟨CT_k a1 (fun c _ _ => by simp (disch := omega) only [sI_o, sI_k, sI_n, sA_o, sA_s, sI_2, sA_2, sL_1, sL_o]), CN_k a2 (fun c _ _ => by simp (disch := omega) only [sI_o, sI_k, sI_n, sA_o, sA_s, sI_2, sA_2, sL_1, sL_o]), (by simp (disch := omega) only [sI_o, sI_k, sI_n, sA_o, sA_s, sI_2, sA_2, sL_1, sL_o]; exact a3)⟩, CCu_k h2 rfl rfl (fun c _ _ => by simp (disch := omega) only [sI_o, sI_k, sI_n, sA_o, sA_s, sI_2, sA_2, sL_1, sL_o]), CCk_k h3 rfl rfl (fun c _ _ => by simp (disch := omega) only [sI_o, sI_k, sI_n, sA_o, sA_s, sI_2, sA_2, sL_1, sL_o]), ?_⟩, keepR_tr (keepR_I (by omega)) (keepR_I (by omega))⟩
        · unfold m_X10_candles m_X1_light g_lt
          rw [c_isP (nI p) a1.1 (by omega), Option.bind_some]
          dsimp only
          rw [if_pos hin, if_neg n10, if_neg q1, if_pos q2, if_pos hi6, Option.bind_some, hc]
          simp (disch := omega) only [sI_o, sI_k, sI_n, sA_o, sA_s, sI_2, sA_2, sL_1, sL_o]
          rw [h6, or1 (by omega) (by omega)]
        · unfold CCs
          simp (disch := omega) only [sI_o, sI_k, sI_n, sA_o, sA_s, sI_2, sA_2, sL_1, sL_o]
          refine ⟨h4, h5, trivial, fun q hq hb => ?_, h8, h9, h10, h11, h12⟩
          have := hrel (σ.1 70) h7 q hq hb
          rw [← this]
          simp [g_sI, va_up]
      · obtain ⟨⟨a1, a2, a3⟩, h2, h3, h4, h5, h6, h7, h8, h9, h10, h11, h12⟩ := h
        refine ⟨g_sI (g_sI σ 90 p (nI m)) 77 19 (nI (st1 (dLit d) p)), ?_, ⟨⟨(by simp (disch := omega) only [sI_o, sI_k, sI_n, sA_o, sA_s, sI_2, sA_2, sL_1, sL_o]; exact a1), (by simp (disch := omega) only [sI_o, sI_k, sI_n, sA_o, sA_s, sI_2, sA_2, sL_1, sL_o]; exact a2), (by simp (disch := omega) only [sI_o, sI_k, sI_n, sA_o, sA_s, sI_2, sA_2, sL_1, sL_o]; exact a3)⟩, RRu_k h2 rfl rfl (by simp (disch := omega) only [sI_o, sI_k, sI_n, sA_o, sA_s, sI_2, sA_2, sL_1, sL_o]) (by simp (disch := omega) only [sI_o, sI_k, sI_n, sA_o, sA_s, sI_2, sA_2, sL_1, sL_o]), RRk_k h3 rfl rfl (by simp (disch := omega) only [sI_o, sI_k, sI_n, sA_o, sA_s, sI_2, sA_2, sL_1, sL_o]), ?_⟩, keepC_tr (keepC_I (by omega)) (keepC_I (by omega))⟩
        · unfold m_X11_candles g_lt
          rw [r_isP (nI p) a1.1 (by omega), Option.bind_some]
          dsimp only
          rw [if_pos hin, if_neg n10, e999, r_inN (nI m) 1000 (by omega), Option.bind_some]
          dsimp only
          rw [if_pos him, if_neg n10, if_pos hi6, hc]
          simp (disch := omega) only [sI_o, sI_k, sI_n, sA_o, sA_s, sI_2, sA_2, sL_1, sL_o]
          rw [h6, or1 (by omega) (by omega)]
        · unfold RRs
          simp (disch := omega) only [sI_o, sI_k, sI_n, sA_o, sA_s, sI_2, sA_2, sL_1, sL_o]
          refine ⟨h4, h5, trivial, fun q hq hb => ?_, h8, h9, h10, h11, h12⟩
          have := hrel (σ.1 90) h7 q hq hb
          rw [← this]
          simp [g_sI, va_up]
    · have hout : ¬ g_in y 1000 := a_out (by omega) hy
      refine ⟨-1000000002, d, ok, fun σ h => ⟨σ, ?_, h, keepR_rf σ⟩, fun σ h => ⟨σ, ?_, h, keepC_rf σ⟩⟩
      · unfold m_X10_candles
        rw [c_isP (nI p) h.1.1.1 (by omega), Option.bind_some]
        dsimp only
        rw [if_pos hin, if_neg n10]
        rcases hy with q | q
        · rw [if_pos q]
        · rw [if_neg (out_lo (by omega) q), if_neg (show ¬ y ≤ (999 : Int32) from out_hi (n := 999) (by omega) q)]
      · unfold m_X11_candles
        rw [r_isP (nI p) h.1.1.1 (by omega), Option.bind_some]
        dsimp only
        rw [if_pos hin, if_neg n10, e999, r_inN y 1000 (by omega), Option.bind_some]
        dsimp only
        rw [if_neg hout, if_pos rfl]
  · have hout : ¬ g_in x (tP (dT d)) := a_out (by omega) hx
    refine ⟨-1000000001, d, ok, fun σ h => ⟨σ, ?_, h, keepR_rf σ⟩, fun σ h => ⟨σ, ?_, h, keepC_rf σ⟩⟩
    · unfold m_X10_candles
      simp only [c_isP x h.1.1.1 (by omega), Option.bind_some, if_neg hout, if_true]
    · unfold m_X11_candles
      simp only [r_isP x h.1.1.1 (by omega), Option.bind_some, if_neg hout, if_true]
abbrev dsTorn (d : Dt) : Dt := (d.1, d.2.1, ([], 0, d.2.2.1.2.2), [], d.2.2.2.2)
theorem bt_0 (q : Nat) : bt 0 q = false := by simp [bt]
set_option maxHeartbeats 1000000 in
theorem sp_tear (N : Nat) (hN : 8 < N) : Sp m_X10_tear (m_X11_tear N) := by
  intro d ok
  have hP6 : tP (dT d) ≤ 6 := ok.1.1
  have hL := ok.2.2.2.2.2.2.1.1
  have hL64 : dLit d < 64 := Nat.lt_of_lt_of_le hL (pow6 hP6)
  obtain ⟨o1, o2, o3, o4, o5, o6, o7, o8, o9⟩ := ok
  refine ⟨nI ((dSeen d).length + pc8 (dLit d) + (dBook d).length), dsTorn d, ⟨o1, o2, o3, o4, o5, ⟨by show 0 ≤ 8; omega, fun t ht => absurd ht List.not_mem_nil⟩, ⟨by show 0 < 2 ^ tP (dT d); exact Nat.pow_pos (by omega), o7.2⟩, ⟨by show 0 ≤ 20; omega, fun t ht => absurd ht List.not_mem_nil⟩, o9⟩, fun σ h => ?_, fun σ h => ?_⟩
  · obtain ⟨⟨a1, a2, a3⟩, h2, h3, h4, h5, h6, h7, h8, h9, h10, h11, h12⟩ := h
    refine ⟨g_sI (g_sI (g_sI σ 67 1 0) 69 4 0) 74 1 0, ?_, ⟨⟨CT_k a1 (fun c _ _ => by simp (disch := omega) only [sI_o, sI_k, sI_n, sA_o, sA_s, sI_2, sA_2, sL_1, sL_o]), CN_k a2 (fun c _ _ => by simp (disch := omega) only [sI_o, sI_k, sI_n, sA_o, sA_s, sI_2, sA_2, sL_1, sL_o]), (by simp (disch := omega) only [sI_o, sI_k, sI_n, sA_o, sA_s, sI_2, sA_2, sL_1, sL_o]; exact a3)⟩, CCu_k h2 rfl rfl (fun c _ _ => by simp (disch := omega) only [sI_o, sI_k, sI_n, sA_o, sA_s, sI_2, sA_2, sL_1, sL_o]), CCk_k h3 rfl rfl (fun c _ _ => by simp (disch := omega) only [sI_o, sI_k, sI_n, sA_o, sA_s, sI_2, sA_2, sL_1, sL_o]), ?_⟩, keepR_tr (keepR_I (by omega)) (keepR_tr (keepR_I (by omega)) (keepR_I (by omega)))⟩
    · unfold m_X10_tear m_X10_forgetSeen g_lt
      rw [h6, bc_256 _ (by omega), Option.bind_some]
      dsimp only
      rw [h4, h8, nI_add, nI_add, Option.bind_some]
    · unfold CCs
      simp (disch := omega) only [sI_o, sI_k, sI_n, sA_o, sA_s, sI_2, sA_2, sL_1, sL_o]
      refine ⟨rfl, fun i hi => absurd hi (Nat.not_lt_zero _), rfl, fun q hq hb => ?_, rfl, fun i hi => absurd hi (Nat.not_lt_zero _), h10, h11, h12⟩
      rw [show dLit (dsTorn d) = 0 from rfl, bt_0] at hb
      cases hb
  · obtain ⟨⟨a1, a2, a3⟩, h2, h3, h4, h5, h6, h7, h8, h9, h10, h11, h12⟩ := h
    refine ⟨g_sI (g_sI (g_sI σ 77 17 0) 77 19 0) 77 21 0, ?_, ⟨⟨(by simp (disch := omega) only [sI_o, sI_k, sI_n, sA_o, sA_s, sI_2, sA_2, sL_1, sL_o]; exact a1), (by simp (disch := omega) only [sI_o, sI_k, sI_n, sA_o, sA_s, sI_2, sA_2, sL_1, sL_o]; exact a2), (by simp (disch := omega) only [sI_o, sI_k, sI_n, sA_o, sA_s, sI_2, sA_2, sL_1, sL_o]; exact a3)⟩, RRu_k h2 rfl rfl (by simp (disch := omega) only [sI_o, sI_k, sI_n, sA_o, sA_s, sI_2, sA_2, sL_1, sL_o]) (by simp (disch := omega) only [sI_o, sI_k, sI_n, sA_o, sA_s, sI_2, sA_2, sL_1, sL_o]), RRk_k h3 rfl rfl (by simp (disch := omega) only [sI_o, sI_k, sI_n, sA_o, sA_s, sI_2, sA_2, sL_1, sL_o]), ?_⟩, keepC_tr (keepC_I (by omega)) (keepC_tr (keepC_I (by omega)) (keepC_I (by omega)))⟩
    · unfold m_X11_tear g_lt
      rw [h6, r_many (by omega) hN, Option.bind_some]
      dsimp only
      rw [h4, h8, nI_add, nI_add]
    · unfold RRs
      simp (disch := omega) only [sI_o, sI_k, sI_n, sA_o, sA_s, sI_2, sA_2, sL_1, sL_o]
      refine ⟨rfl, fun i hi => absurd hi (Nat.not_lt_zero _), rfl, fun q hq hb => ?_, rfl, fun i hi => absurd hi (Nat.not_lt_zero _), h10, h11, h12⟩
      rw [show dLit (dsTorn d) = 0 from rfl, bt_0] at hb
      cases hb
/-! person -/
theorem c_rights_loop {σ : g_St} {a N : Nat} {g : Nat → Nat} (hg : ∀ r, r < 4 → σ.1 15 r = nI (g r)) (hb : ∀ r, r < 4 → g r ≤ 99) (ha : a ≤ 999) : ∀ d r fu, r + d = 4 → d < fu → m_X7_rightsAt_4 N fu (nI a) (nI (setP (fun r => decide (g r ≤ a)) r)) (nI r) σ = some (nI (setP (fun r => decide (g r ≤ a)) 4), σ) := by
  intro d
  induction d with
  | zero =>
    intro r fu hr hf
    obtain ⟨fu, rfl⟩ : ∃ f, fu = f + 1 := ⟨fu - 1, by omega⟩
    unfold m_X7_rightsAt_4
    rw [if_pos (show (4 : Int32) ≤ nI r from a_le (a := 4) r (by omega) (by omega)), show r = 4 by omega]
  | succ d ih =>
    intro r fu hr hf
    obtain ⟨fu, rfl⟩ : ∃ f, fu = f + 1 := ⟨fu - 1, by omega⟩
    have hn := ih (r + 1) fu (by omega) (by omega)
    have hb1 := hb r (by omega)
    unfold m_X7_rightsAt_4 m_X7_rightsAt_25 g_lt
    dsimp only
    rw [if_neg (show ¬ (4 : Int32) ≤ nI r from a_nle (a := 4) r (by omega) (by omega)), if_pos (a_in (by omega) (by omega)), nI_clamp (by omega), hg r (by omega), nI_1]
    rw [setP_s] at hn
    by_cases hc : g r ≤ a
    · rw [if_neg (a_nlt (a := a) (g r) (by omega) (by omega)), or1 (setP_256 _ (by omega)) (by omega)]
      rw [if_pos (by simp [hc])] at hn
      exact hn
    · rw [if_pos (a_lt (a := a) (g r) (by omega) (by omega))]
      rw [if_neg (by simp [hc])] at hn
      exact hn
theorem c_rights {σ : g_St} {a N : Nat} {g : Nat → Nat} (hg : ∀ r, r < 4 → σ.1 15 r = nI (g r)) (hb : ∀ r, r < 4 → g r ≤ 99) (ha : a ≤ 999) (hN : 8 < N) : m_X7_rightsAt N (nI a) σ = some (nI (setP (fun r => decide (g r ≤ a)) 4), σ) := by
  unfold m_X7_rightsAt
  exact c_rights_loop hg hb ha 4 0 N (by omega) (by omega)
theorem r_per_loop {σ : g_St} {a p N : Nat} {g : Nat → Nat} (y : Int32) (hp : p < 6) (hag : σ.1 81 (3 + 2 * p) = nI a) (hg : ∀ r, r < 4 → σ.1 79 (5 + r) = nI (g r)) (hb : ∀ r, r < 4 → g r ≤ 99) (ha : a ≤ 999) : ∀ d r fu, r + d = 4 → d < fu → ∃ f, m_X11_person_16 N fu (nI p) y (nI (setP (fun r => decide (g r ≤ a)) r)) (nI r) σ = m_X11_person_16 N (f + 1) (nI p) y (nI (setP (fun r => decide (g r ≤ a)) 4)) (nI 4) σ := by
  intro d
  induction d with
  | zero =>
    intro r fu hr hf
    obtain ⟨fu, rfl⟩ : ∃ f, fu = f + 1 := ⟨fu - 1, by omega⟩
    exact ⟨fu, by rw [show r = 4 by omega]⟩
  | succ d ih =>
    intro r fu hr hf
    obtain ⟨fu, rfl⟩ : ∃ f, fu = f + 1 := ⟨fu - 1, by omega⟩
    obtain ⟨f, hn⟩ := ih (r + 1) fu (by omega) (by omega)
    refine ⟨f, ?_⟩
    rw [← hn]
    have hb1 := hb r (by omega)
    have e5 : (5 : Int32) + nI r = nI (5 + r) := nI_add 5 r
    rw [m_X11_person_16]
    unfold m_X11_person_53 g_lt
    dsimp only
    rw [if_neg (show ¬ (4 : Int32) ≤ nI r from a_nle (a := 4) r (by omega) (by omega)), e3, if_pos (a_in (by omega) (by omega)), e5, if_pos (a_in (by omega) (by omega)), nI_clamp (by omega), nI_clamp (by omega), hag, hg r (by omega), nI_1, setP_s]
    by_cases hc : g r ≤ a
    · rw [if_neg (a_nlt (a := a) (g r) (by omega) (by omega)), or1 (setP_256 _ (by omega)) (by omega), if_pos (by simp [hc])]
    · rw [if_pos (a_lt (a := a) (g r) (by omega) (by omega)), nI_or0 _ (setP_256 _ (by omega)), if_neg (by simp [hc])]
set_option maxHeartbeats 4000000 in
theorem sp_person (N : Nat) (hN : 8 < N) (x y : Int32) : Sp (m_X10_person N x y) (m_X11_person N x y) := by
  refine Sp_ro (fun d ok => ?_)
  have hP6 : tP (dT d) ≤ 6 := ok.1.1
  have hK8 : tK (dT d) ≤ 8 := ok.1.2.1
  have hg := ok.1.2.2.2.2.2.1
  rcases i_cases x (tP (dT d)) (by omega) with ⟨p, hp, rfl⟩ | hx
  · have hin : g_in (nI p) (tP (dT d)) := a_in hp (by omega)
    have hi6 : g_in (nI p) 6 := a_in (by omega) (by omega)
    have hc : (nI p).toNatClampNeg = p := nI_clamp (by omega)
    have hag := (ok.2.1.2.2.2.2.1 p hp).1
    have key : ∀ σ, RR d σ → ∃ f, m_X11_person N (nI p) y σ = m_X11_person_16 N (f + 1) (nI p) y (nI (setP (fun r => decide (tG (dT d) r ≤ nA (dN d) p)) 4)) (nI 4) σ := fun σ h => by
      unfold m_X11_person
      rw [r_isP (nI p) h.1.1.1 (by omega), Option.bind_some]
      dsimp only
      rw [if_pos hin, if_neg n10]
      exact r_per_loop y (by omega) ((h.1.2.1.2.2.2.1 p hp).1) h.1.1.2.2.2.2.1 hg hag 4 0 N (by omega) (by omega)
    have h4 : (4 : Int32) ≤ nI 4 := a_le (a := 4) 4 (by omega) (by omega)
    by_cases n0 : y = 0
    · subst n0
      refine ⟨nI (nA (dN d) p), fun σ h => ?_, fun σ h => ?_⟩
      · unfold m_X10_person
        rw [c_isP (nI p) h.1.1.1 (by omega), Option.bind_some]
        dsimp only
        rw [if_pos hin, if_neg n10, if_pos (show (0 : Int32) = 0 from rfl), if_pos hi6, hc, (h.1.2.1.2.2.2.1 p hp).1]
      · obtain ⟨f, hf⟩ := key σ h
        rw [hf]
        unfold m_X11_person_16
        rw [if_pos h4, if_pos (show (0 : Int32) = 0 from rfl)] 
        unfold m_X11_person_96
        rw [e3, show nI (3 + 2 * p) + (0 : Int32) = nI (3 + 2 * p) from nI_add _ 0, if_pos (a_in (by omega) (by omega)), nI_clamp (by omega), (h.1.2.1.2.2.2.1 p hp).1]
    by_cases n1 : y = 1
    · subst n1
      refine ⟨nI (nC (dN d) p), fun σ h => ?_, fun σ h => ?_⟩
      · unfold m_X10_person
        rw [c_isP (nI p) h.1.1.1 (by omega), Option.bind_some]
        dsimp only
        rw [if_pos hin, if_neg n10, if_neg (show ¬ (1 : Int32) = 0 by decide), if_pos (show (1 : Int32) = 1 from rfl), if_pos hi6, hc, (h.1.2.1.2.2.2.1 p hp).2]
      · obtain ⟨f, hf⟩ := key σ h
        rw [hf]
        unfold m_X11_person_16
        rw [if_pos h4, if_neg (show ¬ (1 : Int32) = 0 by decide), if_pos (show (1 : Int32) = 1 from rfl)]
        unfold m_X11_person_96
        rw [e3a, if_pos (a_in (by omega) (by omega)), nI_clamp (by omega), (h.1.2.1.2.2.2.1 p hp).2]
    by_cases n2 : y = 2
    · subst n2
      refine ⟨nI (setP (fun r => decide (tG (dT d) r ≤ nA (dN d) p)) 4), fun σ h => ?_, fun σ h => ?_⟩
      · unfold m_X10_person
        rw [c_isP (nI p) h.1.1.1 (by omega), Option.bind_some]
        dsimp only
        rw [if_pos hin, if_neg n10, if_neg (show ¬ (2 : Int32) = 0 by decide), if_neg (show ¬ (2 : Int32) = 1 by decide), if_pos (show (2 : Int32) = 2 from rfl), if_pos hi6, hc, (h.1.2.1.2.2.2.1 p hp).1, c_rights h.1.1.2.2.2.2.1 hg hag hN, Option.bind_some]
      · obtain ⟨f, hf⟩ := key σ h
        rw [hf]
        unfold m_X11_person_16
        rw [if_pos h4, if_neg (show ¬ (2 : Int32) = 0 by decide), if_neg (show ¬ (2 : Int32) = 1 by decide), if_pos (show (2 : Int32) = 2 from rfl)]
    by_cases n3 : y = 3
    · subst n3
      refine ⟨nI (setP (fun t => nH (dN d) t == p) (tK (dT d))), fun σ h => ?_, fun σ h => ?_⟩
      · unfold m_X10_person
        rw [c_isP (nI p) h.1.1.1 (by omega), Option.bind_some]
        dsimp only
        rw [if_pos hin, if_neg n10, if_neg (show ¬ (3 : Int32) = 0 by decide), if_neg (show ¬ (3 : Int32) = 1 by decide), if_neg (show ¬ (3 : Int32) = 2 by decide), if_pos (show (3 : Int32) = 3 from rfl), h.1.1.2.1, c_held ok.1 ok.2.1 h.1.2.1 (by omega) hN, Option.bind_some]
      · obtain ⟨f, hf⟩ := key σ h
        rw [hf]
        unfold m_X11_person_16
        rw [if_pos h4, if_neg (show ¬ (3 : Int32) = 0 by decide), if_neg (show ¬ (3 : Int32) = 1 by decide), if_neg (show ¬ (3 : Int32) = 2 by decide), if_pos (show (3 : Int32) = 3 from rfl), r_held ok.1 ok.2.1 h.1.1.2.1 h.1.2.1 (by omega) hN, Option.bind_some]
    by_cases n4 : y = 4
    · subst n4
      refine ⟨nI (setP (fun t => who (dN d) t == p) (tK (dT d))), fun σ h => ?_, fun σ h => ?_⟩
      · unfold m_X10_person
        rw [c_isP (nI p) h.1.1.1 (by omega), Option.bind_some]
        dsimp only
        rw [if_pos hin, if_neg n10, if_neg (show ¬ (4 : Int32) = 0 by decide), if_neg (show ¬ (4 : Int32) = 1 by decide), if_neg (show ¬ (4 : Int32) = 2 by decide), if_neg (show ¬ (4 : Int32) = 3 by decide), if_pos (show (4 : Int32) = 4 from rfl), h.1.1.2.1, c_age ok.1 ok.2.1 h.1.2.1 (by omega) hN, Option.bind_some]
      · obtain ⟨f, hf⟩ := key σ h
        rw [hf]
        unfold m_X11_person_16
        rw [if_pos h4, if_neg (show ¬ (4 : Int32) = 0 by decide), if_neg (show ¬ (4 : Int32) = 1 by decide), if_neg (show ¬ (4 : Int32) = 2 by decide), if_neg (show ¬ (4 : Int32) = 3 by decide), if_pos (show (4 : Int32) = 4 from rfl), r_own ok.1 ok.2.1 h.1.1.2.1 h.1.2.1 (by omega) hN, Option.bind_some]
    refine ⟨-1000000002, fun σ h => ?_, fun σ h => ?_⟩
    · unfold m_X10_person
      rw [c_isP (nI p) h.1.1.1 (by omega), Option.bind_some]
      dsimp only
      rw [if_pos hin, if_neg n10, if_neg n0, if_neg n1, if_neg n2, if_neg n3, if_neg n4]
    · obtain ⟨f, hf⟩ := key σ h
      rw [hf]
      unfold m_X11_person_16
      rw [if_pos h4, if_neg n0, if_neg n1, if_neg n2, if_neg n3, if_neg n4]
  · have hout : ¬ g_in x (tP (dT d)) := a_out (by omega) hx
    refine ⟨-1000000001, fun σ h => ?_, fun σ h => ?_⟩
    · unfold m_X10_person
      simp only [c_isP x h.1.1.1 (by omega), Option.bind_some, if_neg hout, if_true]
    · unfold m_X11_person
      simp only [r_isP x h.1.1.1 (by omega), Option.bind_some, if_neg hout, if_true]
