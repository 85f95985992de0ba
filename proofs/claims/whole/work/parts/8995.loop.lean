/-! the law's loop, out of what is said of each call -/
theorem law_cond {L i : Nat} (hL : L ≤ 2560) (hi : i ≤ L + 4) : ((Int32.ofNat L) - (5 : Int32) < nI i) ↔ L < i + 5 := by
  show (nI L - nI 5 < nI i) ↔ _
  rw [Int32.lt_iff_toInt_lt, pk_sub_toInt (by omega) (by omega), nI_toInt (by omega)]
  omega
theorem law_end {L i : Nat} (hL : L ≤ 2560) (hi : i ≤ L + 4) (h : L < i + 5) : (Int32.ofNat L) - (5 : Int32) < nI i := (law_cond hL hi).mpr h
theorem law_go {L i : Nat} (hL : L ≤ 2560) (h : ¬ L < i + 5) : ¬ (Int32.ofNat L) - (5 : Int32) < nI i := fun q => h ((law_cond hL (by omega)).mp q)
def AllSp (N : Nat) : Prop := (∀ x : Int32, Sp (m_X10_feed x) (m_X11_feed x)) ∧
  (Sp (m_X10_town N) (m_X11_town N)) ∧
  (Sp (m_X10_fault) (m_X11_fault)) ∧
  (∀ x : Int32, Sp (m_X10_told N x) (m_X11_told N x)) ∧
  (∀ x y : Int32, Sp (m_X10_person N x y) (m_X11_person N x y)) ∧
  (∀ x y : Int32, Sp (m_X10_ticket x y) (m_X11_ticket x y)) ∧
  (∀ x : Int32, Sp (m_X10_right x) (m_X11_right x)) ∧
  (∀ x : Int32, Sp (m_X10_draw x) (m_X11_draw N x)) ∧
  (∀ x : Int32, Sp (m_X10_lots N x) (m_X11_lots N x)) ∧
  (∀ x y : Int32, Sp (m_X10_sell x y) (m_X11_sell x y)) ∧
  (∀ x y : Int32, Sp (m_X10_pawn x y) (m_X11_pawn x y)) ∧
  (∀ x y : Int32, Sp (m_X10_price x y) (m_X11_price x y)) ∧
  (∀ x : Int32, Sp (m_X10_undo x) (m_X11_undo N x)) ∧
  (∀ x y : Int32, Sp (m_X10_odds N x y) (m_X11_odds N x y)) ∧
  (∀ x y : Int32, Sp (m_X10_never N x y) (m_X11_never N x y)) ∧
  (∀ x y z u : Int32, Sp (m_X10_buy N x y z u) (m_X11_buy N x y z u)) ∧
  (∀ x y : Int32, Sp (m_X10_evens N x y) (m_X11_evens N x y)) ∧
  (∀ x y : Int32, Sp (m_X10_couples N x y) (m_X11_couples N x y)) ∧
  (∀ x : Int32, Sp (m_X10_see x) (m_X11_see x)) ∧
  (∀ x : Int32, Sp (m_X10_belief N x) (m_X11_belief N x)) ∧
  (Sp (m_X10_likeliest N) (m_X11_likeliest N)) ∧
  (∀ x y : Int32, Sp (m_X10_candles x y) (m_X11_candles x y)) ∧
  (∀ x y : Int32, Sp (m_X10_rows N x y) (m_X11_rows N x y)) ∧
  (∀ x : Int32, Sp (m_X10_sure N x) (m_X11_sure N x)) ∧
  (∀ x : Int32, Sp (m_X10_write x) (m_X11_write x)) ∧
  (Sp (m_X10_judge N) (m_X11_judge N)) ∧
  (∀ x : Int32, Sp (m_X10_ageBy N x) (m_X11_ageBy N x)) ∧
  (Sp (m_X10_tear) (m_X11_tear N)) ∧
  (∀ x : Int32, Sp (m_X10_seed x) (m_X11_seed x)) ∧
  (∀ x : Int32, Sp (m_X10_keep x) (m_X11_keep N x)) ∧
  (∀ x : Int32, Sp (m_X10_goBack x) (m_X11_goBack N x))
theorem law_step {α : Type} {mc mr : g_St → Option (Int32 × g_St)} {d : Dt} {σ : g_St} {o : Option α} {k : g_St → Option α} (h : Sp mc mr) (r : Rel d σ) (hk : ∀ d τ, Rel d τ → k τ = o) : ((mc σ).bind fun q1 => (mr q1.2).bind fun q2 => if q1.1 = q2.1 then k q2.2 else none) = o := by
  obtain ⟨r, d', τ1, τ2, a1, a2, a3⟩ := Sp_use h r
  rw [a1, Option.bind_some]
  show ((mr τ1).bind fun q2 => if r = q2.1 then k q2.2 else none) = o
  rw [a2, Option.bind_some]
  show (if r = r then k τ2 else none) = o
  rw [if_pos rfl]
  exact hk _ _ a3
set_option maxHeartbeats 4000000 in
set_option maxRecDepth 100000 in
theorem law_loop (N : Nat) (h : AllSp N) (xs : Nat → Int32) (L : Nat) (hL : L ≤ 2560) : ∀ (n fu i : Nat) (d : Dt) (σ : g_St), n < fu → L < i + 5 * n + 5 → i ≤ L + 4 → Rel d σ → m_law_18 xs L N fu (nI i) σ = some () := by
  intro n
  induction n with
  | zero =>
    intro fu i d σ hfu hi hi2 r
    obtain ⟨fu, rfl⟩ : ∃ f, fu = f + 1 := ⟨fu - 1, by omega⟩
    unfold m_law_18
    rw [if_pos (law_end hL hi2 (by omega))]
  | succ n ih =>
    intro fu i d σ hfu hi hi2 r
    obtain ⟨fu, rfl⟩ : ∃ f, fu = f + 1 := ⟨fu - 1, by omega⟩
    by_cases hc : L < i + 5
    · unfold m_law_18
      rw [if_pos (law_end hL hi2 hc)]
    · unfold m_law_18
      have hin : ∀ j, j < 5 → g_in (nI i + nI j) L := fun j hj => by rw [nI_add]; exact (u_in (by omega)).mpr (by omega)
      have hcl : ∀ j, j < 5 → (nI i + nI j).toNatClampNeg = i + j := fun j hj => by rw [nI_add]; exact nI_clamp (by omega)
      have hk : ∀ d τ, Rel d τ → m_law_975 xs L (m_law_18 xs L N fu) N (nI i) τ = some () := fun d τ r => by
        unfold m_law_975 g_lt
        rw [lit_nI 5, nI_add]
        exact ih fu (i + 5) d τ (by omega) (by omega) (by omega) r
      rw [if_neg (law_go hL hc), if_pos ((u_in (by omega)).mpr (by omega))]
      unfold g_lt
      generalize xs (nI i).toNatClampNeg &&& (31 : Int32) = v
      dsimp only
      have h1 : g_in (nI i + 1) L := hin 1 (by omega)
      have h2 : g_in (nI i + 2) L := hin 2 (by omega)
      have h3 : g_in (nI i + 3) L := hin 3 (by omega)
      have h4 : g_in (nI i + 4) L := hin 4 (by omega)
      have c1 : (nI i + 1).toNatClampNeg = i + 1 := hcl 1 (by omega)
      have c2 : (nI i + 2).toNatClampNeg = i + 2 := hcl 2 (by omega)
      have c3 : (nI i + 3).toNatClampNeg = i + 3 := hcl 3 (by omega)
      have c4 : (nI i + 4).toNatClampNeg = i + 4 := hcl 4 (by omega)
      by_cases e0 : v = 0
      · rw [if_pos e0]
        simp only [if_pos h1, c1]
        exact law_step (h.1 (xs (i + 1))) r hk
      rw [if_neg e0]
      by_cases e1 : v = 1
      · rw [if_pos e1]
        exact law_step (h.2.1) r hk
      rw [if_neg e1]
      by_cases e2 : v = 2
      · rw [if_pos e2]
        exact law_step (h.2.2.1) r hk
      rw [if_neg e2]
      by_cases e3 : v = 3
      · rw [if_pos e3]
        simp only [if_pos h1, c1]
        exact law_step (h.2.2.2.1 (xs (i + 1))) r hk
      rw [if_neg e3]
      by_cases e4 : v = 4
      · rw [if_pos e4]
        simp only [if_pos h1, c1, if_pos h2, c2]
        exact law_step (h.2.2.2.2.1 (xs (i + 1)) (xs (i + 2))) r hk
      rw [if_neg e4]
      by_cases e5 : v = 5
      · rw [if_pos e5]
        simp only [if_pos h1, c1, if_pos h2, c2]
        exact law_step (h.2.2.2.2.2.1 (xs (i + 1)) (xs (i + 2))) r hk
      rw [if_neg e5]
      by_cases e6 : v = 6
      · rw [if_pos e6]
        simp only [if_pos h1, c1]
        exact law_step (h.2.2.2.2.2.2.1 (xs (i + 1))) r hk
      rw [if_neg e6]
      by_cases e7 : v = 7
      · rw [if_pos e7]
        simp only [if_pos h1, c1]
        exact law_step (h.2.2.2.2.2.2.2.1 (xs (i + 1))) r hk
      rw [if_neg e7]
      by_cases e8 : v = 8
      · rw [if_pos e8]
        simp only [if_pos h1, c1]
        exact law_step (h.2.2.2.2.2.2.2.2.1 (xs (i + 1))) r hk
      rw [if_neg e8]
      by_cases e9 : v = 9
      · rw [if_pos e9]
        simp only [if_pos h1, c1, if_pos h2, c2]
        exact law_step (h.2.2.2.2.2.2.2.2.2.1 (xs (i + 1)) (xs (i + 2))) r hk
      rw [if_neg e9]
      by_cases e10 : v = 10
      · rw [if_pos e10]
        simp only [if_pos h1, c1, if_pos h2, c2]
        exact law_step (h.2.2.2.2.2.2.2.2.2.2.1 (xs (i + 1)) (xs (i + 2))) r hk
      rw [if_neg e10]
      by_cases e11 : v = 11
      · rw [if_pos e11]
        simp only [if_pos h1, c1, if_pos h2, c2]
        exact law_step (h.2.2.2.2.2.2.2.2.2.2.2.1 (xs (i + 1)) (xs (i + 2))) r hk
      rw [if_neg e11]
      by_cases e12 : v = 12
      · rw [if_pos e12]
        simp only [if_pos h1, c1]
        exact law_step (h.2.2.2.2.2.2.2.2.2.2.2.2.1 (xs (i + 1))) r hk
      rw [if_neg e12]
      by_cases e13 : v = 13
      · rw [if_pos e13]
        simp only [if_pos h1, c1, if_pos h2, c2]
        exact law_step (h.2.2.2.2.2.2.2.2.2.2.2.2.2.1 (xs (i + 1)) (xs (i + 2))) r hk
      rw [if_neg e13]
      by_cases e14 : v = 14
      · rw [if_pos e14]
        simp only [if_pos h1, c1, if_pos h2, c2]
        exact law_step (h.2.2.2.2.2.2.2.2.2.2.2.2.2.2.1 (xs (i + 1)) (xs (i + 2))) r hk
      rw [if_neg e14]
      by_cases e15 : v = 15
      · rw [if_pos e15]
        simp only [if_pos h1, c1, if_pos h2, c2, if_pos h3, c3, if_pos h4, c4]
        exact law_step (h.2.2.2.2.2.2.2.2.2.2.2.2.2.2.2.1 (xs (i + 1)) (xs (i + 2)) (xs (i + 3)) (xs (i + 4))) r hk
      rw [if_neg e15]
      by_cases e16 : v = 16
      · rw [if_pos e16]
        simp only [if_pos h1, c1, if_pos h2, c2]
        exact law_step (h.2.2.2.2.2.2.2.2.2.2.2.2.2.2.2.2.1 (xs (i + 1)) (xs (i + 2))) r hk
      rw [if_neg e16]
      by_cases e17 : v = 17
      · rw [if_pos e17]
        simp only [if_pos h1, c1, if_pos h2, c2]
        exact law_step (h.2.2.2.2.2.2.2.2.2.2.2.2.2.2.2.2.2.1 (xs (i + 1)) (xs (i + 2))) r hk
      rw [if_neg e17]
      by_cases e18 : v = 18
      · rw [if_pos e18]
        simp only [if_pos h1, c1]
        exact law_step (h.2.2.2.2.2.2.2.2.2.2.2.2.2.2.2.2.2.2.1 (xs (i + 1))) r hk
      rw [if_neg e18]
      by_cases e19 : v = 19
      · rw [if_pos e19]
        simp only [if_pos h1, c1]
        exact law_step (h.2.2.2.2.2.2.2.2.2.2.2.2.2.2.2.2.2.2.2.1 (xs (i + 1))) r hk
      rw [if_neg e19]
      by_cases e20 : v = 20
      · rw [if_pos e20]
        exact law_step (h.2.2.2.2.2.2.2.2.2.2.2.2.2.2.2.2.2.2.2.2.1) r hk
      rw [if_neg e20]
      by_cases e21 : v = 21
      · rw [if_pos e21]
        simp only [if_pos h1, c1, if_pos h2, c2]
        exact law_step (h.2.2.2.2.2.2.2.2.2.2.2.2.2.2.2.2.2.2.2.2.2.1 (xs (i + 1)) (xs (i + 2))) r hk
      rw [if_neg e21]
      by_cases e22 : v = 22
      · rw [if_pos e22]
        simp only [if_pos h1, c1, if_pos h2, c2]
        exact law_step (h.2.2.2.2.2.2.2.2.2.2.2.2.2.2.2.2.2.2.2.2.2.2.1 (xs (i + 1)) (xs (i + 2))) r hk
      rw [if_neg e22]
      by_cases e23 : v = 23
      · rw [if_pos e23]
        simp only [if_pos h1, c1]
        exact law_step (h.2.2.2.2.2.2.2.2.2.2.2.2.2.2.2.2.2.2.2.2.2.2.2.1 (xs (i + 1))) r hk
      rw [if_neg e23]
      by_cases e24 : v = 24
      · rw [if_pos e24]
        simp only [if_pos h1, c1]
        exact law_step (h.2.2.2.2.2.2.2.2.2.2.2.2.2.2.2.2.2.2.2.2.2.2.2.2.1 (xs (i + 1))) r hk
      rw [if_neg e24]
      by_cases e25 : v = 25
      · rw [if_pos e25]
        exact law_step (h.2.2.2.2.2.2.2.2.2.2.2.2.2.2.2.2.2.2.2.2.2.2.2.2.2.1) r hk
      rw [if_neg e25]
      by_cases e26 : v = 26
      · rw [if_pos e26]
        simp only [if_pos h1, c1]
        exact law_step (h.2.2.2.2.2.2.2.2.2.2.2.2.2.2.2.2.2.2.2.2.2.2.2.2.2.2.1 (xs (i + 1))) r hk
      rw [if_neg e26]
      by_cases e27 : v = 27
      · rw [if_pos e27]
        exact law_step (h.2.2.2.2.2.2.2.2.2.2.2.2.2.2.2.2.2.2.2.2.2.2.2.2.2.2.2.1) r hk
      rw [if_neg e27]
      by_cases e28 : v = 28
      · rw [if_pos e28]
        simp only [if_pos h1, c1]
        exact law_step (h.2.2.2.2.2.2.2.2.2.2.2.2.2.2.2.2.2.2.2.2.2.2.2.2.2.2.2.2.1 (xs (i + 1))) r hk
      rw [if_neg e28]
      by_cases e29 : v = 29
      · rw [if_pos e29]
        simp only [if_pos h1, c1]
        exact law_step (h.2.2.2.2.2.2.2.2.2.2.2.2.2.2.2.2.2.2.2.2.2.2.2.2.2.2.2.2.2.1 (xs (i + 1))) r hk
      rw [if_neg e29]
      by_cases e30 : v = 30
      · rw [if_pos e30]
        simp only [if_pos h1, c1]
        exact law_step (h.2.2.2.2.2.2.2.2.2.2.2.2.2.2.2.2.2.2.2.2.2.2.2.2.2.2.2.2.2.2 (xs (i + 1))) r hk
      rw [if_neg e30]
      exact hk d σ r
