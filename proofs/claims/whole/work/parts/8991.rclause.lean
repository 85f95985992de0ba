/-! the reference's clauses -/
def RS (S : Sx) (σ : g_St) : Prop := (σ.1 78 0 = nI (tP (sW S)) ∧ σ.1 78 1 = nI (tK (sW S)) ∧ σ.1 78 2 = nI (tY (sW S)) ∧ σ.1 78 3 = nI (tR (sW S))) ∧ σ.1 78 4 = nI (sYt S + 2 * sRt S) ∧ (∀ r, r < 4 → σ.1 78 (5 + r) = nI (tG (sW S) r)) ∧ (∀ p, p < tP (sW S) → σ.1 78 (9 + 2 * p) = nI (sA S p) ∧ σ.1 78 (9 + 2 * p + 1) = nI (sC S p)) ∧ (∀ t, t < tK (sW S) → σ.1 78 (21 + 3 * t) = nI (sH S t) ∧ σ.1 78 (21 + 3 * t + 1) = nI (tW (sW S) t) ∧ σ.1 78 (21 + 3 * t + 2) = nI (sPr S t))
def F8 (σ τ : g_St) : Prop := (∀ c, c ≠ 77 → c ≠ 78 → τ.1 c = σ.1 c) ∧ (∀ j, j ≠ 4 → j ≠ 5 → j ≠ 6 → τ.1 77 j = σ.1 77 j) ∧ τ.2 = σ.2
theorem F8_7 {σ0 σ τ : g_St} (h : F8 σ0 σ) (k : F7 σ τ) : F8 σ0 τ := ⟨fun c c1 c2 => (k.1 c c1).trans (h.1 c c1 c2), fun j a b c => (k.2.1 j a b c).trans (h.2.1 j a b c), k.2.2.trans h.2.2⟩
theorem F8_rf (σ : g_St) : F8 σ σ := ⟨fun _ _ _ => rfl, fun _ _ _ _ => rfl, rfl⟩
theorem F8_tr {σ τ υ : g_St} (h1 : F8 σ τ) (h2 : F8 τ υ) : F8 σ υ := ⟨fun c a b => (h2.1 c a b).trans (h1.1 c a b), fun j a b c => (h2.2.1 j a b c).trans (h1.2.1 j a b c), h2.2.2.trans h1.2.2⟩
theorem F8_I {σ0 σ : g_St} {j : Nat} {v : Int32} (h : F8 σ0 σ) : F8 σ0 (g_sI σ 78 j v) := ⟨fun c c1 c2 => by rw [sI_o c2]; exact h.1 c c1 c2, fun i a b c => by rw [sI_o (by omega)]; exact h.2.1 i a b c, by rw [sI_2]; exact h.2.2⟩
theorem LT_8 {x : Nat → Nat} {n : Nat} {σ τ : g_St} (h : LT x n σ) (k : F8 σ τ) : LT x n τ := ⟨by rw [k.2.1 3 (by omega) (by omega) (by omega)]; exact h.1, fun i hi => by rw [k.1 80 (by omega) (by omega)]; exact h.2 i hi⟩
theorem RM_I {n : Nat} {M : Sum (Nat × Nat) Nat} {σ : g_St} {j : Nat} {v : Int32} (h : RM n M σ) : RM n M (g_sI σ 78 j v) := by
  cases M with
  | inl z =>
    obtain ⟨k, p⟩ := z
    obtain ⟨h1, h2, h3⟩ := h
    exact ⟨by rw [sI_o (by omega)]; exact h1, by rw [sI_o (by omega)]; exact h2, h3⟩
  | inr a =>
    obtain ⟨h1, h2, h3, h4⟩ := h
    exact ⟨by rw [sI_o (by omega)]; exact h1, by rw [sI_o (by omega)]; exact h2, by rw [sI_o (by omega)]; exact h3, h4⟩
theorem hi_c {g v : Nat} (hg : g < 2000) (hv : v < 10000) : nI v ≤ nI g ↔ v < g + 1 := by
  constructor
  · intro h
    apply Classical.byContradiction
    intro z
    exact a_nle g (by omega) (by omega) h
  · intro h; exact a_le g (by omega) (by omega)
theorem hi_P {P v : Nat} (hP : P < 2000) (hv : v < 10000) : nI v ≤ nI P - 1 ↔ v < P := by
  cases P with
  | zero =>
    have : ¬ nI v ≤ nI 0 - 1 := by
      rw [Int32.le_iff_toInt_le, nI_toInt (by omega)]
      have : (nI 0 - 1).toInt = -1 := by decide
      omega
    exact ⟨fun h => absurd h this, fun h => by omega⟩
  | succ P => rw [nI_pred]; exact hi_c (by omega) hv
abbrev nsC (x : Nat → Nat) (n c : Nat) (S : Sx) (j b : Nat) : Sum (Nat × Nat) ((Nat → Nat) × Nat) := nsR x n c (tP (sW S)) j 0 (b + 1) (fun _ => 0)
theorem r_person {x : Nat → Nat} {n N b : Nat} {S : Sx} {σ : g_St} (hn : n ≤ 250) (hN : 300 < N) (hx8 : ∀ i, i < n → x i < 256) (hS : SOK S) (hP : tP (sW S) < 6) (hL : LT x n σ) (hR : RS S σ) (hM : RM n (.inr (b + 1)) σ) : ∃ τ, m_X11_readPerson N σ = some τ ∧ RM n (outM (nsC x n 112 S 2 b)) τ ∧ F8 σ τ ∧ (∀ g e, nsC x n 112 S 2 b = .inr (g, e) → RS (addS 112 g S) τ) := by
  obtain ⟨⟨a1, a2, a3, a4⟩, a5, a6, a7, a8⟩ := hR
  have e9 : (9 : Int32) + ((2 : Int32) * nI (tP (sW S))) = nI (9 + 2 * tP (sW S)) := by
    rw [show (2 : Int32) * nI (tP (sW S)) = nI (2 * tP (sW S)) from pk_mul 2 _]; exact nI_add 9 _
  obtain ⟨r0, y, y1, y2, y3, y4⟩ := r_numN (N := N) (c := 112) (P := tP (sW S)) (j := 0) (a0 := b + 1) (lo := 0) (h1 := 100) (hi := 99) hn hN hx8 rfl rfl (fun v hv => hi_c (g := 99) (by omega) hv) hL hM
  have hL1 : LT x n (g_sI y 78 (9 + 2 * tP (sW S)) r0) := LT_8 hL (F8_I (F8_7 (F8_rf σ) y3))
  obtain ⟨r1, z, z1, z2, z3, z4⟩ := r_numN (N := N) (c := 112) (P := tP (sW S)) (j := 1) (a0 := b + 1) (lo := 0) (h1 := 1000) (hi := 999) hn hN hx8 rfl rfl (fun v hv => hi_c (g := 999) (by omega) hv) hL1 (RM_I y2)
  have hz78 : z.1 78 = (g_sI y 78 (9 + 2 * tP (sW S)) r0).1 78 := z3.1 78 (by omega)
  have hy78 : y.1 78 = σ.1 78 := y3.1 78 (by omega)
  refine ⟨g_sI (g_sI z 78 (9 + 2 * tP (sW S) + 1) r1) 78 0 (nI (tP (sW S) + 1)), ?_, RM_I (RM_I z2), F8_I (F8_I (F8_7 (F8_I (F8_7 (F8_rf σ) y3)) z3)), fun g e hg => ?_⟩
  · unfold m_X11_readPerson g_lt
    dsimp only
    rw [a1, e9, show (0 : Int32) = nI 0 from rfl, y1, Option.bind_some, if_pos (a_in (by omega) (by omega)), nI_clamp (by omega)]
    dsimp only
    rw [show nI 0 = (0 : Int32) from rfl] at *
    rw [z1, Option.bind_some, nI_1, if_pos (a_in (by omega) (by omega)), nI_clamp (by omega)]
    dsimp only
    rw [sI_n (by omega), hz78, sI_n (by omega), hy78, a1, nI_1]
  · obtain ⟨q1, g', e', q2, q3⟩ := z4 g e hg
    obtain ⟨p1, _⟩ := y4 g' e' q2
    have hg0 : r0 = nI (g 0) := by rw [p1, q3 0 (by omega)]
    have key : ∀ j, j ≠ 0 → j ≠ 9 + 2 * tP (sW S) → j ≠ 9 + 2 * tP (sW S) + 1 → (g_sI (g_sI z 78 (9 + 2 * tP (sW S) + 1) r1) 78 0 (nI (tP (sW S) + 1))).1 78 j = σ.1 78 j := fun j j0 j1 j2 => by rw [sI_n j0, sI_n j2, hz78, sI_n j1, hy78]
    refine ⟨⟨by rw [sI_k]; rfl, by rw [key 1 (by omega) (by omega) (by omega)]; exact a2, by rw [key 2 (by omega) (by omega) (by omega)]; exact a3, by rw [key 3 (by omega) (by omega) (by omega)]; exact a4⟩, by rw [key 4 (by omega) (by omega) (by omega)]; exact a5, fun r hr => by rw [key _ (by omega) (by omega) (by omega)]; exact a6 r hr, fun p hp => ?_, fun t ht => ?_⟩
    · have hp' : p < tP (sW S) + 1 := hp
      show _ = nI (va_up (sA S) (tP (sW S)) (g 0) p) ∧ _ = nI (va_up (sC S) (tP (sW S)) (g 1) p)
      by_cases e : p = tP (sW S)
      · rw [e, g_up_s, g_up_s, sI_n (by omega), sI_n (by omega), hz78, sI_k, sI_n (by omega), sI_k]
        exact ⟨hg0, q1⟩
      · rw [g_up_n _ _ e, g_up_n _ _ e, key _ (by omega) (by omega) (by omega), key _ (by omega) (by omega) (by omega)]
        exact a7 p (by omega)
    · have ht8 : t < tK (sW S) := ht
      have := hS.1.2.1
      rw [key _ (by omega) (by omega) (by omega), key _ (by omega) (by omega) (by omega), key _ (by omega) (by omega) (by omega)]
      exact a8 t ht
theorem r_ticket {x : Nat → Nat} {n N b : Nat} {S : Sx} {σ : g_St} (hn : n ≤ 250) (hN : 300 < N) (hx8 : ∀ i, i < n → x i < 256) (hS : SOK S) (hK : tK (sW S) < 8) (hL : LT x n σ) (hR : RS S σ) (hM : RM n (.inr (b + 1)) σ) : ∃ τ, m_X11_readTicket N σ = some τ ∧ RM n (outM (nsC x n 116 S 3 b)) τ ∧ F8 σ τ ∧ (∀ g e, nsC x n 116 S 3 b = .inr (g, e) → RS (addS 116 g S) τ) := by
  obtain ⟨⟨a1, a2, a3, a4⟩, a5, a6, a7, a8⟩ := hR
  have hP6 : tP (sW S) ≤ 6 := hS.1.1
  have e21 : (21 : Int32) + ((3 : Int32) * nI (tK (sW S))) = nI (21 + 3 * tK (sW S)) := by
    rw [show (3 : Int32) * nI (tK (sW S)) = nI (3 * tK (sW S)) from pk_mul 3 _]; exact nI_add 21 _
  obtain ⟨r0, y, y1, y2, y3, y4⟩ := r_numN (N := N) (c := 116) (P := tP (sW S)) (j := 0) (a0 := b + 1) (lo := 0) (h1 := tP (sW S)) (hi := nI (tP (sW S)) - 1) hn hN hx8 rfl rfl (fun v hv => hi_P (by omega) hv) hL hM
  have hL1 : LT x n (g_sI y 78 (21 + 3 * tK (sW S)) r0) := LT_8 hL (F8_I (F8_7 (F8_rf σ) y3))
  obtain ⟨r1, z, z1, z2, z3, z4⟩ := r_numN (N := N) (c := 116) (P := tP (sW S)) (j := 1) (a0 := b + 1) (lo := 1) (h1 := 10) (hi := 9) hn hN hx8 rfl rfl (fun v hv => hi_c (g := 9) (by omega) hv) hL1 (RM_I y2)
  have hL2 : LT x n (g_sI z 78 (21 + 3 * tK (sW S) + 1) r1) := LT_8 hL1 (F8_I (F8_7 (F8_rf _) z3))
  obtain ⟨r2, u, u1, u2, u3, u4⟩ := r_numN (N := N) (c := 116) (P := tP (sW S)) (j := 2) (a0 := b + 1) (lo := 0) (h1 := 100) (hi := 99) hn hN hx8 rfl rfl (fun v hv => hi_c (g := 99) (by omega) hv) hL2 (RM_I z2)
  have hu78 : u.1 78 = (g_sI z 78 (21 + 3 * tK (sW S) + 1) r1).1 78 := u3.1 78 (by omega)
  have hz78 : z.1 78 = (g_sI y 78 (21 + 3 * tK (sW S)) r0).1 78 := z3.1 78 (by omega)
  have hy78 : y.1 78 = σ.1 78 := y3.1 78 (by omega)
  refine ⟨g_sI (g_sI u 78 (21 + 3 * tK (sW S) + 2) r2) 78 1 (nI (tK (sW S) + 1)), ?_, RM_I (RM_I u2), F8_I (F8_I (F8_7 (F8_I (F8_7 (F8_I (F8_7 (F8_rf σ) y3)) z3)) u3)), fun g e hg => ?_⟩
  · unfold m_X11_readTicket g_lt
    dsimp only
    rw [a1, a2, e21, show (0 : Int32) = nI 0 from rfl, y1, Option.bind_some, if_pos (a_in (by omega) (by omega)), nI_clamp (by omega)]
    dsimp only
    rw [show (1 : Int32) = nI 1 from rfl, z1, Option.bind_some, nI_add, if_pos (a_in (by omega) (by omega)), nI_clamp (by omega)]
    dsimp only
    rw [u1, Option.bind_some, show (2 : Int32) = nI 2 from rfl, nI_add, if_pos (a_in (by omega) (by omega)), nI_clamp (by omega)]
    dsimp only
    rw [sI_n (by omega), hu78, sI_n (by omega), hz78, sI_n (by omega), hy78, a2, nI_add]
  · obtain ⟨q1, g', e', q2, q3⟩ := u4 g e hg
    obtain ⟨p1, g2, e2, p2, p3⟩ := z4 g' e' q2
    obtain ⟨o1, _⟩ := y4 g2 e2 p2
    have hg1 : r1 = nI (g 1) := by rw [p1, q3 1 (by omega)]
    have hg0 : r0 = nI (g 0) := by rw [o1, q3 0 (by omega), p3 0 (by omega)]
    have key : ∀ j, j ≠ 1 → j ≠ 21 + 3 * tK (sW S) → j ≠ 21 + 3 * tK (sW S) + 1 → j ≠ 21 + 3 * tK (sW S) + 2 → (g_sI (g_sI u 78 (21 + 3 * tK (sW S) + 2) r2) 78 1 (nI (tK (sW S) + 1))).1 78 j = σ.1 78 j := fun j j0 j1 j2 j3 => by rw [sI_n j0, sI_n j3, hu78, sI_n j2, hz78, sI_n j1, hy78]
    refine ⟨⟨by rw [key 0 (by omega) (by omega) (by omega) (by omega)]; exact a1, by rw [sI_k]; rfl, by rw [key 2 (by omega) (by omega) (by omega) (by omega)]; exact a3, by rw [key 3 (by omega) (by omega) (by omega) (by omega)]; exact a4⟩, by rw [key 4 (by omega) (by omega) (by omega) (by omega)]; exact a5, fun r hr => by rw [key _ (by omega) (by omega) (by omega) (by omega)]; exact a6 r hr, fun p hp => ?_, fun t ht => ?_⟩
    · have hp6 : p < tP (sW S) := hp
      rw [key _ (by omega) (by omega) (by omega) (by omega), key _ (by omega) (by omega) (by omega) (by omega)]
      exact a7 p hp6
    · have ht' : t < tK (sW S) + 1 := ht
      show _ = nI (va_up (sH S) (tK (sW S)) (g 0) t) ∧ _ = nI (va_up (tW (sW S)) (tK (sW S)) (g 1) t) ∧ _ = nI (va_up (sPr S) (tK (sW S)) (g 2) t)
      by_cases e : t = tK (sW S)
      · rw [e, g_up_s, g_up_s, g_up_s, sI_n (by omega), sI_n (by omega), sI_n (by omega), sI_n (by omega), sI_n (by omega), sI_k, hu78, sI_k, sI_n (by omega), hz78, sI_k]
        exact ⟨hg0, hg1, q1⟩
      · rw [g_up_n _ _ e, g_up_n _ _ e, g_up_n _ _ e, key _ (by omega) (by omega) (by omega) (by omega), key _ (by omega) (by omega) (by omega) (by omega), key _ (by omega) (by omega) (by omega) (by omega)]
        exact a8 t (by omega)

theorem yr_or : ∀ y, y < 2 → ∀ r, r < 2 → nI (y + 2 * r) ||| (1 : Int32) = nI (1 + 2 * r) ∧ nI (y + 2 * r) ||| (2 : Int32) = nI (y + 2) ∧ ((nI (y + 2 * r) &&& (1 : Int32)) = 1 ↔ y = 1) ∧ ((nI (y + 2 * r) &&& (2 : Int32)) = 2 ↔ r = 1) := by decide +kernel
theorem r_year {x : Nat → Nat} {n N b : Nat} {S : Sx} {σ : g_St} (hn : n ≤ 250) (hN : 300 < N) (hx8 : ∀ i, i < n → x i < 256) (hS : SOK S) (hL : LT x n σ) (hR : RS S σ) (hM : RM n (.inr (b + 1)) σ) : ∃ τ, ((m_X11_number N (1 : Int32) (8 : Int32) σ).bind fun q6 => (g_lt (g_sI q6.2 78 2 q6.1) fun σ7 => ((m_X11_number N (0 : Int32) (1 : Int32) σ7).bind fun q8 => (g_lt (g_sI q8.2 78 3 q8.1) fun σ9 => (g_lt (g_sI σ9 78 4 ((σ9.1 78 4) ||| (1 : Int32))) fun σ10 => m_X11_clause_242 N σ10))))) = m_X11_clause_242 N τ ∧ RM n (outM (nsC x n 121 S 2 b)) τ ∧ F8 σ τ ∧ (∀ g e, nsC x n 121 S 2 b = .inr (g, e) → RS (addS 121 g S) τ) := by
  obtain ⟨⟨a1, a2, a3, a4⟩, a5, a6, a7, a8⟩ := hR
  obtain ⟨hw, y1', y2', _, _⟩ := hS
  obtain ⟨r0, y, y1, y2, y3, y4⟩ := r_numN (N := N) (c := 121) (P := tP (sW S)) (j := 0) (a0 := b + 1) (lo := 1) (h1 := 9) (hi := 8) hn hN hx8 rfl rfl (fun v hv => hi_c (g := 8) (by omega) hv) hL hM
  have hL1 : LT x n (g_sI y 78 2 r0) := LT_8 hL (F8_I (F8_7 (F8_rf σ) y3))
  obtain ⟨r1, z, z1, z2, z3, z4⟩ := r_numN (N := N) (c := 121) (P := tP (sW S)) (j := 1) (a0 := b + 1) (lo := 0) (h1 := 2) (hi := 1) hn hN hx8 rfl rfl (fun v hv => hi_c (g := 1) (by omega) hv) hL1 (RM_I y2)
  have hz78 : z.1 78 = (g_sI y 78 2 r0).1 78 := z3.1 78 (by omega)
  have hy78 : y.1 78 = σ.1 78 := y3.1 78 (by omega)
  have hor := (yr_or (sYt S) (by omega) (sRt S) (by omega)).1
  refine ⟨g_sI (g_sI z 78 3 r1) 78 4 (nI (1 + 2 * sRt S)), ?_, RM_I (RM_I z2), F8_I (F8_I (F8_7 (F8_I (F8_7 (F8_rf σ) y3)) z3)), fun g e hg => ?_⟩
  · have e1 : m_X11_number N (1 : Int32) (8 : Int32) σ = some (r0, y) := y1
    have e2 : m_X11_number N (0 : Int32) (1 : Int32) (g_sI y 78 2 r0) = some (r1, z) := z1
    unfold g_lt
    rw [e1, Option.bind_some]
    dsimp only
    rw [e2, Option.bind_some]
    dsimp only
    rw [sI_n (by omega), hz78, sI_n (by omega), hy78, a5, hor]
  · obtain ⟨q1, g', e', q2, q3⟩ := z4 g e hg
    obtain ⟨p1, _⟩ := y4 g' e' q2
    have hg0 : r0 = nI (g 0) := by rw [p1, q3 0 (by omega)]
    have key : ∀ j, j ≠ 2 → j ≠ 3 → j ≠ 4 → (g_sI (g_sI z 78 3 r1) 78 4 (nI (1 + 2 * sRt S))).1 78 j = σ.1 78 j := fun j j0 j1 j2 => by rw [sI_n j2, sI_n j1, hz78, sI_n j0, hy78]
    refine ⟨⟨by rw [key 0 (by omega) (by omega) (by omega)]; exact a1, by rw [key 1 (by omega) (by omega) (by omega)]; exact a2, ?_, ?_⟩, by rw [sI_k]; rfl, fun r hr => by rw [key _ (by omega) (by omega) (by omega)]; exact a6 r hr, fun p hp => by rw [key _ (by omega) (by omega) (by omega), key _ (by omega) (by omega) (by omega)]; exact a7 p hp, fun t ht => by rw [key _ (by omega) (by omega) (by omega), key _ (by omega) (by omega) (by omega), key _ (by omega) (by omega) (by omega)]; exact a8 t ht⟩
    · rw [sI_n (by omega), sI_n (by omega), hz78, sI_k]; exact hg0
    · rw [sI_n (by omega), sI_k]; exact q1
theorem r_rights {x : Nat → Nat} {n N b : Nat} {S : Sx} {σ0 : g_St} (hn : n ≤ 250) (hN : 300 < N) (hx8 : ∀ i, i < n → x i < 256) (hS : SOK S) (hR : RS S σ0) : ∀ m k fu σ, k + m = 4 → m < fu → F8 σ0 σ → LT x n σ → RM n (outM (nsC x n 114 S k b)) σ → (∀ j, (j < 5 ∨ 8 < j) → σ.1 78 j = σ0.1 78 j) → (∀ g e, nsC x n 114 S k b = .inr (g, e) → ∀ i, i < k → σ.1 78 (5 + i) = nI (g i)) → ∃ τ, m_X11_clause_206 N fu (nI k) σ = m_X11_clause_242 N τ ∧ RM n (outM (nsC x n 114 S 4 b)) τ ∧ F8 σ0 τ ∧ (∀ g e, nsC x n 114 S 4 b = .inr (g, e) → RS (addS 114 g S) τ) := by
  obtain ⟨⟨a1, a2, a3, a4⟩, a5, a6, a7, a8⟩ := hR
  obtain ⟨hw, y1', y2', _, _⟩ := hS
  have hor := (yr_or (sYt S) (by omega) (sRt S) (by omega)).2.1
  intro m
  induction m with
  | zero =>
    intro k fu σ hk hf hF hL hM h78 hg
    obtain ⟨fu, rfl⟩ : ∃ f, fu = f + 1 := ⟨fu - 1, by omega⟩
    have hk4 : k = 4 := by omega
    subst hk4
    refine ⟨g_sI σ 78 4 (nI (sYt S + 2)), ?_, RM_I hM, F8_I hF, fun g e hge => ?_⟩
    · unfold m_X11_clause_206 g_lt
      rw [if_pos (show (4 : Int32) ≤ nI 4 by decide), h78 4 (by omega), a5, hor]
    · refine ⟨⟨by rw [sI_n (by omega), h78 0 (by omega)]; exact a1, by rw [sI_n (by omega), h78 1 (by omega)]; exact a2, by rw [sI_n (by omega), h78 2 (by omega)]; exact a3, by rw [sI_n (by omega), h78 3 (by omega)]; exact a4⟩, by rw [sI_k]; rfl, fun r hr => by rw [sI_n (by omega)]; exact hg g e hge r hr, fun p hp => by rw [sI_n (by omega), sI_n (by omega), h78 _ (by omega), h78 _ (by omega)]; exact a7 p hp, fun t ht => by rw [sI_n (by omega), sI_n (by omega), sI_n (by omega), h78 _ (by omega), h78 _ (by omega), h78 _ (by omega)]; exact a8 t ht⟩
  | succ m ih =>
    intro k fu σ hk hf hF hL hM h78 hg
    obtain ⟨fu, rfl⟩ : ∃ f, fu = f + 1 := ⟨fu - 1, by omega⟩
    have hlo : 0 = rlo 114 k := by unfold rlo; rw [if_neg (by omega)]
    have hhi : 100 = rhi 114 (tP (sW S)) k := by unfold rhi; rw [if_neg (by omega), if_neg (by omega), if_neg (by omega)]
    obtain ⟨r, y, y1, y2, y3, y4⟩ := r_numN (N := N) (c := 114) (P := tP (sW S)) (j := k) (a0 := b + 1) (lo := 0) (h1 := 100) (hi := 99) hn hN hx8 hlo hhi (fun v hv => hi_c (g := 99) (by omega) hv) hL hM
    have hy78 : y.1 78 = σ.1 78 := y3.1 78 (by omega)
    obtain ⟨τ, t1, t2⟩ := ih (k + 1) fu (g_sI y 78 (5 + k) r) (by omega) (by omega) (F8_I (F8_7 hF y3)) (LT_8 hL (F8_I (F8_7 (F8_rf σ) y3))) (RM_I y2) (fun j hj => by rw [sI_n (by omega), hy78]; exact h78 j hj) (fun g e hge i hi => by
      obtain ⟨q1, g', e', q2, q3⟩ := y4 g e hge
      by_cases z : i = k
      · rw [z, sI_k]; exact q1
      · rw [sI_n (by omega), hy78, hg g' e' q2 i (by omega), q3 i (by omega)])
    refine ⟨τ, ?_, t2⟩
    rw [← t1]
    conv => lhs; unfold m_X11_clause_206 g_lt
    have e1 : m_X11_number N (0 : Int32) (99 : Int32) σ = some (r, y) := y1
    rw [if_neg (show ¬ (4 : Int32) ≤ nI k from a_nle (a := 4) k (by omega) (by omega)), e1, Option.bind_some]
    dsimp only
    rw [show (5 : Int32) + nI k = nI (5 + k) from nI_add 5 k, if_pos (a_in (by omega) (by omega)), nI_clamp (by omega), nI_1]
/-- how a clause ends -/
def clM (x : Nat → Nat) (n : Nat) : Sum (Nat × Nat) Nat → Sum (Nat × Nat) Nat
  | .inl e => .inl e
  | .inr a => if skp x n a < n ∧ x (skp x n a) = 59 then .inr (skp x n a + 1) else .inl (1, skp x n a)
theorem r_242 {x : Nat → Nat} {n N : Nat} {M : Sum (Nat × Nat) Nat} {σ : g_St} (hn : n ≤ 250) (hN : 300 < N) (hx8 : ∀ i, i < n → x i < 256) (hL : LT x n σ) (hM : RM n M σ) : ∃ τ, m_X11_clause_242 N σ = some τ ∧ RM n (clM x n M) τ ∧ F7 σ τ := by
  have e267 : ∀ s, m_X11_clause_267 N s = some (g_sI s 77 4 (s.1 77 4 + 1)) := fun s => rfl
  cases M with
  | inl z =>
    obtain ⟨q, p⟩ := z
    obtain ⟨m1, m2, m3, m4⟩ := hM
    refine ⟨g_sI σ 77 4 (σ.1 77 4 + 1), ?_, ⟨by simp (disch := omega) only [sI_o, sI_k, sI_n, sA_o, sA_s, sI_2, sA_2, sL_1, sL_o]; exact m1, by simp (disch := omega) only [sI_o, sI_k, sI_n, sA_o, sA_s, sI_2, sA_2, sL_1, sL_o]; exact m2, m3, m4⟩, F7_I (F7_rf σ) (by omega)⟩
    unfold m_X11_clause_242
    rw [m1, if_neg (nI_ne0 (by omega) (by omega)), e267]
  | inr a =>
    obtain ⟨m1, m2, m3, m4⟩ := hM
    obtain ⟨s1, s2, s3, s4⟩ := skp_p (x := x) (n := n) _ a (Nat.le_refl _) m4
    obtain ⟨y, y1, y2, y3, y4, y5⟩ := r_here (N := N) hn hN hx8 m4 hL m1
    have hF : F7 σ y := ⟨y4, fun j j1 _ _ => y3 j j1, y5⟩
    unfold m_X11_clause_242
    rw [if_pos m2, y1, Option.bind_some]
    dsimp only
    unfold clM
    dsimp only
    by_cases hc : skp x n a < n ∧ x (skp x n a) = 59
    · rw [if_pos hc, if_pos hc.1, hc.2, if_pos (show nI 59 = (59 : Int32) from rfl), e267, y2, nI_1]
      refine ⟨_, rfl, ⟨by simp (disch := omega) only [sI_o, sI_k, sI_n, sA_o, sA_s, sI_2, sA_2, sL_1, sL_o], by simp (disch := omega) only [sI_o, sI_k, sI_n, sA_o, sA_s, sI_2, sA_2, sL_1, sL_o]; rw [y3 5 (by omega)]; exact m2, by simp (disch := omega) only [sI_o, sI_k, sI_n, sA_o, sA_s, sI_2, sA_2, sL_1, sL_o]; rw [y3 6 (by omega)]; exact m3, by omega⟩, F7_I hF (by omega)⟩
    · rw [if_neg hc]
      have h59 : ¬ (if skp x n a < n then nI (x (skp x n a)) else -1) = (59 : Int32) := by
        by_cases q : skp x n a < n
        · rw [if_pos q]; exact a_ne 59 (fun z => hc ⟨q, z⟩) (by have := hx8 _ q; omega) (by omega)
        · rw [if_neg q]; decide
      rw [if_neg h59, r_fault0 (by rw [y3 5 (by omega)]; exact m2), Option.bind_some, e267, y2]
      refine ⟨_, rfl, ⟨by simp (disch := omega) only [sI_o, sI_k, sI_n, sA_o, sA_s, sI_2, sA_2, sL_1, sL_o]; rfl, by simp (disch := omega) only [sI_o, sI_k, sI_n, sA_o, sA_s, sI_2, sA_2, sL_1, sL_o], by omega, by omega⟩, F7_I (F7_I (F7_I hF (by omega)) (by omega)) (by omega)⟩
theorem r_116f {N : Nat} {c : Int32} {σ : g_St} (h : ¬ σ.1 77 5 = 0) : m_X11_clause_116 N c σ = some σ := by
  unfold m_X11_clause_116
  rw [if_neg h]
