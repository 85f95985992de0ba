/-! tickets to buy -/
theorem bt_setP {P : Nat → Bool} : ∀ K t, bt (setP P K) t = (decide (t < K) && P t)
  | 0, t => by rw [show setP P 0 = 0 from rfl, bt_0]; simp
  | K + 1, t => by
    rw [setP_s]
    by_cases hp : P K = true
    · rw [if_pos hp]
      unfold bt st1
      rw [Nat.testBit_or, Nat.testBit_two_pow]
      have ih := bt_setP (P := P) K t
      unfold bt at ih
      rw [ih]
      by_cases e : K = t
      · subst e; simp [hp]
      · by_cases l : t < K
        · simp [e, l, show t < K + 1 by omega]
        · simp [e, l, show ¬ t < K + 1 by omega]
    · rw [if_neg hp, bt_setP K t]
      by_cases e : K = t
      · subst e; simp [hp]
      · by_cases l : t < K
        · simp [l, show t < K + 1 by omega]
        · simp [l, show ¬ t < K + 1 by omega]
def frS (v : Nw) (p t : Nat) : Bool := !(nH v t == p) && (nL v t).isNone
def frB (v : Nw) (p s : Nat) : Nat → Bool
  | 0 => true
  | t + 1 => frB v p s t && (!(bt s t) || frS v p t)
theorem frB_s (v : Nw) (p s t : Nat) : frB v p s (t + 1) = (frB v p s t && (!(bt s t) || frS v p t)) := rfl
theorem frB_iff {v : Nw} {p s : Nat} : ∀ K, frB v p s K = true ↔ ∀ t, t < K → bt s t = true → frS v p t = true
  | 0 => ⟨fun _ t ht => by omega, fun _ => rfl⟩
  | K + 1 => by
    rw [frB_s, Bool.and_eq_true, frB_iff K]
    constructor
    · intro h t ht hb
      by_cases e : t = K
      · subst e
        have := h.2
        rw [hb] at this
        simpa using this
      · exact h.1 t (by omega) hb
    · intro h
      refine ⟨fun t ht => h t (by omega), ?_⟩
      by_cases hb : bt s K = true
      · rw [h K (by omega) hb]; simp
      · simp at hb; rw [hb]; rfl
theorem sub_iff {v : Nw} {p s K : Nat} (hK : K ≤ 8) (hs : s < 2 ^ K) : s &&& (255 ^^^ setP (frS v p) K) = 0 ↔ frB v p s K = true := by
  rw [frB_iff]
  constructor
  · intro h t ht hb
    have h1 : (s &&& (255 ^^^ setP (frS v p) K)).testBit t = false := by rw [h]; simp
    have h2 : (setP (frS v p) K).testBit t = frS v p t := by
      have := bt_setP (P := frS v p) K t
      unfold bt at this
      rw [this]; simp [ht]
    have hb' : s.testBit t = true := hb
    rw [Nat.testBit_and, Nat.testBit_xor, t255 t (by omega), h2, hb'] at h1
    simpa using h1
  · intro h
    apply Nat.eq_of_testBit_eq
    intro i
    rw [Nat.testBit_and, Nat.testBit_xor, Nat.zero_testBit]
    by_cases hi : i < K
    · have h2 : (setP (frS v p) K).testBit i = frS v p i := by
        have := bt_setP (P := frS v p) K i
        unfold bt at this
        rw [this]; simp [hi]
      rw [t255 i (by omega), h2]
      by_cases hb : s.testBit i = true
      · rw [h i hi hb, hb]; rfl
      · simp at hb; rw [hb]; rfl
    · have : s.testBit i = false := Nat.testBit_lt_two_pow (Nat.lt_of_lt_of_le hs (Nat.pow_le_pow_right (by omega) (by omega)))
      rw [this]; rfl
theorem sub_le {v : Nw} {p s K : Nat} (hK : K ≤ 8) (hs : s < 2 ^ K) (h : frB v p s K = true) : s ≤ setP (frS v p) K := by
  have e : s = s &&& setP (frS v p) K := by
    apply Nat.eq_of_testBit_eq
    intro i
    rw [Nat.testBit_and]
    by_cases hb : s.testBit i = true
    · have hi : i < K := by
        apply Classical.byContradiction
        intro q
        have : s.testBit i = false := Nat.testBit_lt_two_pow (Nat.lt_of_lt_of_le hs (Nat.pow_le_pow_right (by omega) (by omega)))
        rw [this] at hb; exact absurd hb (by simp)
      have h2 := bt_setP (P := frS v p) K i
      unfold bt at h2
      rw [h2, hb, (frB_iff K).mp h i hi hb]; simp [hi]
    · simp at hb; rw [hb]; rfl
  rw [e]; exact Nat.and_le_right
theorem bt_hi {s K t : Nat} (hs : s < 2 ^ K) (ht : K ≤ t) : bt s t = false := Nat.testBit_lt_two_pow (Nat.lt_of_lt_of_le hs (Nat.pow_le_pow_right (by omega) ht))
theorem wsm_ext {w : Nat → Nat} {s K : Nat} (hs : s < 2 ^ K) : ∀ j, wsm w s (K + j) = wsm w s K
  | 0 => rfl
  | j + 1 => by
    rw [show K + (j + 1) = K + j + 1 by omega, wsm_s, wsm_ext hs j, if_neg (by rw [bt_hi hs (by omega)]; simp), Nat.add_zero]
theorem c_sale_loop {σ : g_St} {w : Tw} {v : Nw} {p N : Nat} (hw : TwOK w) (hv : NwOK w v) (h : CN w v σ) (hp : p < 2 ^ 31) : ∀ d t fu, t + d = tK w → d < fu → m_X4_forSaleTo_5 N fu (nI p) (nI (tK w)) (nI (setP (frS v p) t)) (nI t) σ = some (nI (setP (frS v p) (tK w)), σ) := by
  have hP : tP w ≤ 6 := hw.1
  have hK : tK w ≤ 8 := hw.2.1
  intro d
  induction d with
  | zero =>
    intro t fu ht hf
    obtain ⟨fu, rfl⟩ : ∃ f, fu = f + 1 := ⟨fu - 1, by omega⟩
    unfold m_X4_forSaleTo_5
    rw [if_pos (a_le t (by omega) (by omega)), show t = tK w by omega]
  | succ d ih =>
    intro t fu ht hf
    obtain ⟨fu, rfl⟩ : ∃ f, fu = f + 1 := ⟨fu - 1, by omega⟩
    have hn := ih (t + 1) fu (by omega) (by omega)
    have hlt := hv.2.2.2.2.2 t (by omega)
    have i1 : g_in (nI t) 8 := a_in (by omega) (by omega)
    unfold m_X4_forSaleTo_5 m_X4_forSaleTo_40 g_lt
    dsimp only
    rw [if_neg (a_nle (a := tK w) t (by omega) (by omega)), if_pos i1, nI_clamp (by omega), (h.2.2.2.2 t (by omega)).1, (h.2.2.2.2 t (by omega)).2.1]
    rw [setP_s] at hn
    by_cases hb : nH v t = p
    · rw [if_pos (by rw [hb]), nI_1]
      rw [if_neg (by simp [frS, hb])] at hn
      exact hn
    · rw [if_neg (a_ne p hb (by omega) hp), if_pos i1]
      cases hL : nL v t with
      | none =>
        rw [if_pos (show plv none = -1 from rfl), or1 (setP_256 _ (by omega)) (by omega), nI_1]
        rw [if_pos (by simp [frS, hb, hL])] at hn
        exact hn
      | some q =>
        have hq := hlt.2.1 q hL
        rw [if_neg (show ¬ plv (some q) = -1 by show ¬ nI q = -1; rw [u_m1 (by omega)]; exact id), nI_1]
        rw [if_neg (by simp [frS, hL])] at hn
        exact hn
theorem c_price_loop {σ : g_St} {w : Tw} {v : Nw} {s N : Nat} (hw : TwOK w) (h : CN w v σ) (hs : s < 2 ^ tK w) : ∀ d t fu, t + d = 8 → d < fu → m_X4_priceOf_4 N fu (nI s) (nI (wsm (nP v) s t)) (nI t) σ = some (nI (wsm (nP v) s (tK w)), σ) := by
  have hK : tK w ≤ 8 := hw.2.1
  have hp := pow8 hK
  intro d
  induction d with
  | zero =>
    intro t fu ht hf
    obtain ⟨fu, rfl⟩ : ∃ f, fu = f + 1 := ⟨fu - 1, by omega⟩
    unfold m_X4_priceOf_4
    rw [if_pos (show (8 : Int32) ≤ nI t from a_le (a := 8) t (by omega) (by omega)), show t = tK w + (8 - tK w) by omega, wsm_ext hs]
  | succ d ih =>
    intro t fu ht hf
    obtain ⟨fu, rfl⟩ : ∃ f, fu = f + 1 := ⟨fu - 1, by omega⟩
    have hn := ih (t + 1) fu (by omega) (by omega)
    rw [wsm_s] at hn
    unfold m_X4_priceOf_4 m_X4_priceOf_27 g_lt
    dsimp only
    rw [if_neg (show ¬ (8 : Int32) ≤ nI t from a_nle (a := 8) t (by omega) (by omega)), c_holds (by omega) (by omega), Option.bind_some]
    dsimp only
    by_cases hb : bt s t = true
    · have htK : t < tK w := by
        apply Classical.byContradiction
        intro q
        rw [bt_hi hs (by omega)] at hb
        exact absurd hb (by simp)
      rw [if_pos hb, if_neg n10, if_pos (a_in (by omega) (by omega)), nI_clamp (by omega), (h.2.2.2.2 t htK).2.2, nI_add, nI_1]
      rw [if_pos hb] at hn
      exact hn
    · rw [if_neg hb, if_pos rfl, nI_1]
      rw [if_neg hb, Nat.add_zero] at hn
      exact hn
theorem c_price {σ : g_St} {w : Tw} {v : Nw} {s N : Nat} (hw : TwOK w) (h : CN w v σ) (hs : s < 2 ^ tK w) (hN : 8 < N) : m_X4_priceOf N (nI s) σ = some (nI (wsm (nP v) s (tK w)), σ) := c_price_loop hw h hs 8 0 N (by omega) (by omega)
/-- is s better than what was found -/
def btr (C : Nat → Nat) (b : Option Nat) (s : Nat) : Bool := match b with | none => true | some q => decide (C s < C q) || (C s == C q && decide (pc8 s < pc8 q))
def bS (C : Nat → Nat) (al en : Nat → Bool) (co : Nat) (b : Option Nat) (s : Nat) : Option Nat := if (al s && decide (C s ≤ co) && btr C b s && en s) = true then some s else b
def bF (C : Nat → Nat) (al en : Nat → Bool) (co : Nat) : Nat → Nat → Option Nat → Option Nat
  | 0, _, b => b
  | m + 1, s, b => bF C al en co m (s + 1) (bS C al en co b s)
theorem bF_s (C : Nat → Nat) (al en : Nat → Bool) (co m s : Nat) (b : Option Nat) : bF C al en co (m + 1) s b = bF C al en co m (s + 1) (bS C al en co b s) := rfl
theorem bF_add {C : Nat → Nat} {al en : Nat → Bool} {co k : Nat} : ∀ m s b, bF C al en co (m + k) s b = bF C al en co k (s + m) (bF C al en co m s b)
  | 0, s, b => by rw [Nat.zero_add]; rfl
  | m + 1, s, b => by
    rw [show m + 1 + k = m + k + 1 by omega, bF_s, bF_s, bF_add m, show s + 1 + m = s + (m + 1) by omega]
theorem bF_stay {C : Nat → Nat} {al en : Nat → Bool} {co : Nat} : ∀ m s b, (∀ x, s ≤ x → x < s + m → al x = false) → bF C al en co m s b = b
  | 0, s, b, _ => rfl
  | m + 1, s, b, h => by
    rw [bF_s]
    have e : bS C al en co b s = b := by unfold bS; rw [h s (by omega) (by omega)]; rfl
    rw [e]
    exact bF_stay m (s + 1) b (fun x h1 h2 => h x (by omega) (by omega))
def bOK (C : Nat → Nat) (co n : Nat) (b : Option Nat) : Prop := ∀ q, b = some q → q < n ∧ C q ≤ co
theorem bOK_s {C : Nat → Nat} {al en : Nat → Bool} {co n s : Nat} {b : Option Nat} (h : bOK C co n b) (hs : s < n) : bOK C co n (bS C al en co b s) := by
  intro q hq
  unfold bS at hq
  by_cases c : (al s && decide (C s ≤ co) && btr C b s && en s) = true
  · rw [if_pos c] at hq
    cases hq
    simp only [Bool.and_eq_true, decide_eq_true_eq] at c
    exact ⟨hs, c.1.1.2⟩
  · rw [if_neg c] at hq; exact h q hq
theorem bOK_F {C : Nat → Nat} {al en : Nat → Bool} {co n : Nat} : ∀ m s b, s + m ≤ n → bOK C co n b → bOK C co n (bF C al en co m s b)
  | 0, s, b, _, h => h
  | m + 1, s, b, hs, h => bOK_F m (s + 1) _ (by omega) (bOK_s h (by omega))
def bPr (C : Nat → Nat) (co : Nat) : Option Nat → Nat
  | none => co + 1
  | some q => C q
def bMn : Option Nat → Nat
  | none => 0
  | some q => pc8 q
def bCs (C : Nat → Nat) : Option Nat → Nat
  | none => 0
  | some q => C q
/-- nothing is dearer for the class than what one has -/
theorem cls_c {C : Nat → Nat} {co n s : Nat} {b : Option Nat} (hb : bOK C co n b) : (C s < bPr C co b ∨ (C s = bPr C co b ∧ pc8 s < bMn b)) ↔ (C s ≤ co ∧ btr C b s = true) := by
  cases b with
  | none => show (C s < co + 1 ∨ (C s = co + 1 ∧ pc8 s < 0)) ↔ (C s ≤ co ∧ true = true); exact ⟨fun z => ⟨by omega, rfl⟩, fun z => by have := z.1; omega⟩
  | some q =>
    have := (hb q rfl).2
    show (C s < C q ∨ (C s = C q ∧ pc8 s < pc8 q)) ↔ (C s ≤ co ∧ (decide (C s < C q) || (C s == C q && decide (pc8 s < pc8 q))) = true)
    simp only [Bool.or_eq_true, Bool.and_eq_true, decide_eq_true_eq, beq_iff_eq]
    omega
/-- when nothing is needed, nothing is bought -/
theorem bF_0 {C : Nat → Nat} {al : Nat → Bool} {co : Nat} (h0 : C 0 = 0) : ∀ m s, bF C al (fun _ => true) co m s (some 0) = some 0
  | 0, s => rfl
  | m + 1, s => by
    rw [bF_s]
    have e : bS C al (fun _ => true) co (some 0) s = some 0 := by
      unfold bS
      by_cases q : (al s && decide (C s ≤ co) && btr C (some 0) s && true) = true
      · have : btr C (some 0) s = false := by
          show (decide (C s < C 0) || (C s == C 0 && decide (pc8 s < pc8 0))) = false
          rw [h0, pc8_0]; simp
        rw [this] at q
        simp at q
      · rw [if_neg q]
    rw [e]
    exact bF_0 h0 m (s + 1)
theorem OD_9 {w : Tw} {D M v n : Nat} (hD : D < 256) (hv : 8 < v) : OD w D M v n = 0 := by
  unfold OD
  split
  · unfold oW; rw [show 9 - v = 0 by omega]; rfl
  · exact sg_0 _ (fun u _ => by unfold oF; rw [if_neg (by have := pc8_le (dmF D M u) (dmF_lt hD); omega)])
abbrev enB (d : Dt) (p v x : Nat) : Nat → Bool := fun s => decide (10000000 * x ≤ OD (dT d) (nS (dN d)) (ownS d p ||| s) v (tY (dT d) - nD (dN d)))
abbrev cB (d : Dt) : Nat → Nat := fun s => wsm (nP (dN d)) s (tK (dT d))
abbrev alB (d : Dt) (p : Nat) : Nat → Bool := fun s => frB (dN d) p s (tK (dT d))
theorem or_lt {a b : Nat} (ha : a < 256) (hb : b < 256) : a ||| b < 256 := Nat.or_lt_two_pow (n := 8) ha hb
set_option maxHeartbeats 1000000 in
theorem c_cheap {d : Dt} {N p v x : Nat} (ok : OK d) (hp : p < tP (dT d)) (hv : v < 2 ^ 31) (hx : x ≤ 100) (hN : 300 < N) : ∀ m s b fu σ, s + m = setP (frS (dN d) p) (tK (dT d)) + 1 → m < fu → bOK (cB d) (nC (dN d) p) (2 ^ tK (dT d)) b → CC d σ → CH (dT d) (nS (dN d)) (tY (dT d) - nD (dN d)) σ → ∃ τ, m_X10_cheapest_95 N fu (nI v) (lN (10000000 * x)) (nI (ownS d p)) (nI (setP (frS (dN d) p) (tK (dT d)))) (plv b) (nI (bPr (cB d) (nC (dN d) p) b)) (nI (bMn b)) (nI s) σ = some (plv (bF (cB d) (alB d p) (enB d p v x) (nC (dN d) p) m s b), τ) ∧ τ.1 = σ.1 ∧ (∀ c, c ≠ 62 → τ.2 c = σ.2 c) := by
  have hK : tK (dT d) ≤ 8 := ok.1.2.1
  have hp8 := pow8 hK
  have hoth := setP_lt (frS (dN d) p) (tK (dT d))
  have hco := (ok.2.1.2.2.2.2.1 p hp).2
  have hY8 := ok.1.2.2.2.1
  have hCb : ∀ s, cB d s ≤ 99 * tK (dT d) := fun s => wsm_le (tK (dT d)) (fun t ht => (ok.2.1.2.2.2.2.2 t ht).2.2)
  intro m
  induction m with
  | zero =>
    intro s b fu σ hs hf hb h hC
    obtain ⟨fu, rfl⟩ : ∃ f, fu = f + 1 := ⟨fu - 1, by omega⟩
    refine ⟨σ, ?_, rfl, fun c _ => rfl⟩
    unfold m_X10_cheapest_95
    rw [if_pos (a_lt s (by omega) (by omega))]
    rfl
  | succ m ih =>
    intro s b fu σ hs hf hb h hC
    obtain ⟨fu, rfl⟩ : ∃ f, fu = f + 1 := ⟨fu - 1, by omega⟩
    have hs2 : s < 2 ^ tK (dT d) := by omega
    have hbpr : bPr (cB d) (nC (dN d) p) b ≤ 10000 := by
      cases b with
      | none => show nC (dN d) p + 1 ≤ 10000; omega
      | some q => have := hCb q; show cB d q ≤ 10000; omega
    have hbm : bMn b ≤ 8 := by
      cases b with
      | none => show 0 ≤ 8; omega
      | some q => exact pc8_le q (by have := (hb q rfl).1; omega)
    have skip : bS (cB d) (alB d p) (enB d p v x) (nC (dN d) p) b s = b → ∀ σ', CC d σ' → CH (dT d) (nS (dN d)) (tY (dT d) - nD (dN d)) σ' → ∃ τ, m_X10_cheapest_95 N fu (nI v) (lN (10000000 * x)) (nI (ownS d p)) (nI (setP (frS (dN d) p) (tK (dT d)))) (plv b) (nI (bPr (cB d) (nC (dN d) p) b)) (nI (bMn b)) (nI (s + 1)) σ' = some (plv (bF (cB d) (alB d p) (enB d p v x) (nC (dN d) p) (m + 1) s b), τ) ∧ τ.1 = σ'.1 ∧ (∀ c, c ≠ 62 → τ.2 c = σ'.2 c) := fun e σ' h' hC' => by
      have := ih (s + 1) b fu σ' (by omega) (by omega) hb h' hC'
      rw [bF_s, e]
      exact this
    by_cases hal : alB d p s = true
    · have hsub : nI s &&& (nI (setP (frS (dN d) p) (tK (dT d))) ^^^ (-1 : Int32)) = 0 := by
        rw [nI_andn (by omega), (sub_iff hK hs2).mpr hal]; rfl
      have hbase : m_X10_cheapest_95 N (fu + 1) (nI v) (lN (10000000 * x)) (nI (ownS d p)) (nI (setP (frS (dN d) p) (tK (dT d)))) (plv b) (nI (bPr (cB d) (nC (dN d) p) b)) (nI (bMn b)) (nI s) σ = if (cB d s ≤ nC (dN d) p ∧ btr (cB d) b s = true) then m_X10_cheapest_159 (m_X10_cheapest_95 N fu) N (nI v) (lN (10000000 * x)) (nI (ownS d p)) (nI (setP (frS (dN d) p) (tK (dT d)))) (plv b) (nI (bPr (cB d) (nC (dN d) p) b)) (nI (bMn b)) (nI s) (nI (cB d s)) (nI (pc8 s)) 1 σ else m_X10_cheapest_95 N fu (nI v) (lN (10000000 * x)) (nI (ownS d p)) (nI (setP (frS (dN d) p) (tK (dT d)))) (plv b) (nI (bPr (cB d) (nC (dN d) p) b)) (nI (bMn b)) (nI (s + 1)) σ := by
        have hcs := hCb s
        have hps := pc8_le s (by omega)
        conv => lhs; unfold m_X10_cheapest_95 m_X10_cheapest_154 m_X10_cheapest_158
        rw [if_neg (a_nlt s (by omega) (by omega)), if_pos hsub, c_price ok.1 h.1.2.1 hs2 (by omega), show wsm (nP (dN d)) s (tK (dT d)) = cB d s from rfl, Option.bind_some]
        dsimp only
        rw [bc_256 s (by omega), Option.bind_some]
        dsimp only
        have e0 : m_X10_cheapest_159 (m_X10_cheapest_95 N fu) N (nI v) (lN (10000000 * x)) (nI (ownS d p)) (nI (setP (frS (dN d) p) (tK (dT d)))) (plv b) (nI (bPr (cB d) (nC (dN d) p) b)) (nI (bMn b)) (nI s) (nI (cB d s)) (nI (pc8 s)) 0 σ = m_X10_cheapest_95 N fu (nI v) (lN (10000000 * x)) (nI (ownS d p)) (nI (setP (frS (dN d) p) (tK (dT d)))) (plv b) (nI (bPr (cB d) (nC (dN d) p) b)) (nI (bMn b)) (nI (s + 1)) σ := by
          unfold m_X10_cheapest_159 m_X10_cheapest_200 g_lt
          rw [if_pos rfl, nI_1]
        have hk := cls_c (s := s) hb
        by_cases q1 : cB d s < bPr (cB d) (nC (dN d) p) b
        · rw [if_pos (a_lt _ q1 (by omega)), if_pos (hk.mp (Or.inl q1))]
        · rw [if_neg (a_nlt _ (by omega) (by omega))]
          by_cases q2 : cB d s = bPr (cB d) (nC (dN d) p) b
          · rw [if_pos (show nI (cB d s) = nI (bPr (cB d) (nC (dN d) p) b) from congrArg nI q2)]
            by_cases q3 : pc8 s < bMn b
            · rw [if_neg (a_nle _ q3 (by omega)), if_pos (hk.mp (Or.inr ⟨q2, q3⟩))]
            · rw [if_pos (a_le _ (by omega) (by omega)), if_neg (fun z => by have := hk.mpr z; omega)]
              exact e0
          · rw [if_neg (a_ne _ q2 (by omega) (by omega)), if_neg (fun z => by have := hk.mpr z; omega)]
            exact e0
      rw [hbase]
      by_cases hbt : cB d s ≤ nC (dN d) p ∧ btr (cB d) b s = true
      · rw [if_pos hbt]
        have hMs : ownS d p ||| s < 256 := or_lt (own_lt ok p) (by omega)
        obtain ⟨y, y1, y2, y3, y4⟩ := c_atLeast (N := N) (M := ownS d p ||| s) (v := v) ok.1 ok.2.1.2.2.1 (OK_FR ok) hMs hv (show tY (dT d) - nD (dN d) ≤ 8 by omega) hN h.1.1 hC
        have hOD := OD_le (D := nS (dN d)) (M := ownS d p ||| s) (v := v) (n := tY (dT d) - nD (dN d)) ok.1 (by have := ok.2.1.2.2.1; omega) (by omega)
        have hCy : CC d y := CC_ch h (fun c _ => by rw [y3])
        unfold m_X10_cheapest_159 m_X10_cheapest_200 g_lt
        simp only [lc_lt]
        rw [if_neg n10, nI_or, y1, Option.bind_some]
        dsimp only
        rw [nI_1]
        by_cases hen : 10000000 * x ≤ OD (dT d) (nS (dN d)) (ownS d p ||| s) v (tY (dT d) - nD (dN d))
        · have e : bS (cB d) (alB d p) (enB d p v x) (nC (dN d) p) b s = some s := by
            unfold bS
            rw [if_pos]
            rw [hal, hbt.2]
            simp [hbt.1, hen]
          rw [if_neg (by rw [pk_lLT (by omega) (by omega)]; omega)]
          obtain ⟨τ, t1, t2, t3⟩ := ih (s + 1) (some s) fu y (by omega) (by omega) (by rw [← e]; exact bOK_s hb hs2) hCy y2
          refine ⟨τ, ?_, t2.trans y3, fun c hc => (t3 c hc).trans (y4 c hc)⟩
          rw [bF_s, e]
          exact t1
        · have e : bS (cB d) (alB d p) (enB d p v x) (nC (dN d) p) b s = b := by
            unfold bS
            rw [if_neg]
            simp [hen]
          rw [if_pos (by rw [pk_lLT (by omega) (by omega)]; omega)]
          obtain ⟨τ, t1, t2, t3⟩ := skip e y hCy y2
          exact ⟨τ, t1, t2.trans y3, fun c hc => (t3 c hc).trans (y4 c hc)⟩
      · rw [if_neg hbt]
        refine skip ?_ σ h hC
        unfold bS
        rw [if_neg]
        intro z
        simp only [Bool.and_eq_true, decide_eq_true_eq] at z
        exact hbt ⟨z.1.1.2, z.1.2⟩
    · have hsub : ¬ nI s &&& (nI (setP (frS (dN d) p) (tK (dT d))) ^^^ (-1 : Int32)) = 0 := by
        rw [nI_andn (by omega)]
        intro z
        have hlt : s &&& (255 ^^^ setP (frS (dN d) p) (tK (dT d))) < 256 := and_lt (by omega)
        exact hal ((sub_iff hK hs2).mp ((nI_eq (b := 0) (by omega) (by omega)).mp z))
      unfold m_X10_cheapest_95 m_X10_cheapest_200 g_lt
      rw [if_neg (a_nlt s (by omega) (by omega)), if_neg hsub, nI_1]
      refine skip ?_ σ h hC
      unfold bS
      rw [if_neg]
      intro z
      simp only [Bool.and_eq_true] at z
      exact hal z.1.1.1

/-- the reference's walk over a set's tickets -/
theorem r_b97 {d : Dt} {N p s : Nat} {x3 x4 x5 x6 x7 : Int32} {k79 : Int32 → Int32 → Int32 → Int32 → Int32 → Int32 → Int32 → g_St → Option (Int32 × g_St)} {σ : g_St} (ok : OK d) (h : RR d σ) (hp : p < tP (dT d)) (hs : s < 2 ^ tK (dT d)) : ∀ m t fu, t + m = tK (dT d) → m < fu → m_X11_buy_97 k79 N fu (nI p) x3 x4 x5 x6 x7 (nI s) (nI (wsm (nP (dN d)) s t)) (if frB (dN d) p s t then 1 else 0) (nI t) σ = m_X11_buy_217 k79 N (nI p) x3 x4 x5 x6 x7 (nI s) (nI (cB d s)) (if alB d p s = true ∧ cB d s ≤ nC (dN d) p then 1 else 0) σ := by
  have hP : tP (dT d) ≤ 6 := ok.1.1
  have hK : tK (dT d) ≤ 8 := ok.1.2.1
  have hp8 := pow8 hK
  have hco := (ok.2.1.2.2.2.2.1 p hp).2
  have hCb : cB d s ≤ 99 * tK (dT d) := wsm_le (tK (dT d)) (fun t ht => (ok.2.1.2.2.2.2.2 t ht).2.2)
  intro m
  induction m with
  | zero =>
    intro t fu ht hf
    obtain ⟨fu, rfl⟩ : ∃ f, fu = f + 1 := ⟨fu - 1, by omega⟩
    have e : t = tK (dT d) := by omega
    subst e
    unfold m_X11_buy_97 m_X11_buy_216
    rw [h.1.1.2.1, if_pos (a_le _ (Nat.le_refl _) (by omega)), e3a, if_pos (a_in (by omega) (by omega)), nI_clamp (by omega), (h.1.2.1.2.2.2.1 p hp).2, show wsm (nP (dN d)) s (tK (dT d)) = cB d s from rfl, show frB (dN d) p s (tK (dT d)) = alB d p s from rfl]
    by_cases q : alB d p s = true
    · rw [if_pos q, if_neg n10]
      by_cases q2 : cB d s ≤ nC (dN d) p
      · rw [if_neg (a_nlt _ q2 (by omega)), if_pos ⟨q, q2⟩]
      · rw [if_pos (a_lt _ (by omega) (by omega)), if_neg (fun z => q2 z.2)]
    · rw [if_neg q, if_pos rfl, if_neg (fun z => q z.1)]
  | succ m ih =>
    intro t fu ht hf
    obtain ⟨fu, rfl⟩ : ∃ f, fu = f + 1 := ⟨fu - 1, by omega⟩
    have hn := ih (t + 1) fu (by omega) (by omega)
    rw [wsm_s, frB_s] at hn
    have hr := h.1.2.1.2.2.2.2 t (by omega)
    have hv := ok.2.1.2.2.2.2.2 t (by omega)
    rw [← hn]
    conv => lhs; unfold m_X11_buy_97 m_X11_buy_181 m_X11_buy_182 m_X11_buy_184 g_lt
    dsimp only
    rw [h.1.1.2.1, if_neg (a_nle (a := tK (dT d)) t (by omega) (by omega))]
    by_cases hb : bt s t = true
    · rw [bit1 (by omega) (by omega) hb, if_pos rfl, if_pos hb, e15b, if_pos (a_in (by omega) (by omega)), nI_clamp (by omega), hr.2.2, nI_add, e15, if_pos (a_in (by omega) (by omega)), nI_clamp (by omega), hr.1, nI_1, nI_1, if_pos (a_in (by omega) (by omega)), nI_clamp (by omega), hr.2.1, hb]
      by_cases q : frB (dN d) p s t = true
      · rw [if_pos q, if_neg n10, q]
        by_cases q2 : nH (dN d) t = p
        · rw [if_pos (by rw [q2])]
          simp [frS, q2]
        · rw [if_neg (a_ne p q2 (by omega) (by omega))]
          cases hL : nL (dN d) t with
          | none => rw [if_pos (show plv none = -1 from rfl)]; simp [frS, q2, hL]
          | some u =>
            have := hv.2.1 u hL
            rw [if_neg (show ¬ plv (some u) = -1 by show ¬ nI u = -1; rw [u_m1 (by omega)]; exact id)]
            simp [frS, hL]
      · rw [if_neg q, if_pos rfl]
        simp at q
        rw [q]; simp
    · rw [bit0 (by omega) (by omega) hb, if_neg n01, if_neg hb, Nat.add_zero, nI_1]
      simp at hb
      rw [hb]; simp
theorem r_b217 {d : Dt} {N p s : Nat} {x3 x4 x5 : Int32} {b : Option Nat} {k79 : Int32 → Int32 → Int32 → Int32 → Int32 → Int32 → Int32 → g_St → Option (Int32 × g_St)} {σ : g_St} (ok : OK d) (hs : s < 2 ^ tK (dT d)) (hN : 8 < N) (hb : bOK (cB d) (nC (dN d) p) (2 ^ tK (dT d)) b) : m_X11_buy_217 k79 N (nI p) x3 x4 x5 (plv b) (nI (bCs (cB d) b)) (nI s) (nI (cB d s)) (if alB d p s = true ∧ cB d s ≤ nC (dN d) p then 1 else 0) σ = if (alB d p s = true ∧ cB d s ≤ nC (dN d) p) ∧ btr (cB d) b s = true then m_X11_buy_257 k79 N (nI p) x3 x4 x5 (plv b) (nI (bCs (cB d) b)) (nI s) (nI (cB d s)) 1 1 σ else k79 (nI p) x3 x4 x5 (plv b) (nI (bCs (cB d) b)) (nI (s + 1)) σ := by
  have hK : tK (dT d) ≤ 8 := ok.1.2.1
  have hp8 := pow8 hK
  have hCb : ∀ s, cB d s ≤ 99 * tK (dT d) := fun s => wsm_le (tK (dT d)) (fun t ht => (ok.2.1.2.2.2.2.2 t ht).2.2)
  have hs1 := hCb s
  have h0 : ∀ x y : Int32, (x = 0 ∨ y = 0) → m_X11_buy_257 k79 N (nI p) x3 x4 x5 (plv b) (nI (bCs (cB d) b)) (nI s) (nI (cB d s)) x y σ = k79 (nI p) x3 x4 x5 (plv b) (nI (bCs (cB d) b)) (nI (s + 1)) σ := fun x y hxy => by
    unfold m_X11_buy_257 m_X11_buy_324 g_lt
    rw [nI_1]
    by_cases q : x = 0
    · rw [if_pos q]
    · rw [if_neg q, if_pos (hxy.resolve_left q)]
  have hgo : m_X11_buy_217 k79 N (nI p) x3 x4 x5 (plv b) (nI (bCs (cB d) b)) (nI s) (nI (cB d s)) (if alB d p s = true ∧ cB d s ≤ nC (dN d) p then 1 else 0) σ = m_X11_buy_257 k79 N (nI p) x3 x4 x5 (plv b) (nI (bCs (cB d) b)) (nI s) (nI (cB d s)) (if alB d p s = true ∧ cB d s ≤ nC (dN d) p then 1 else 0) (if btr (cB d) b s = true then 1 else 0) σ := by
    unfold m_X11_buy_217 m_X11_buy_252 m_X11_buy_256
    cases b with
    | none => rw [if_pos (show plv none = -1 from rfl), if_pos (show btr (cB d) none s = true from rfl)]
    | some q =>
      have hq := hb q rfl
      have hq1 := hCb q
      have e : btr (cB d) (some q) s = (decide (cB d s < cB d q) || (cB d s == cB d q && decide (pc8 s < pc8 q))) := rfl
      have hpq := pc8_le q (by omega)
      have hps := pc8_le s (by omega)
      rw [if_neg (show ¬ plv (some q) = -1 by show ¬ nI q = -1; rw [u_m1 (by omega)]; exact id), show bCs (cB d) (some q) = cB d q from rfl, show plv (some q) = nI q from rfl, e]
      by_cases q1 : cB d s < cB d q
      · rw [if_pos (a_lt _ q1 (by omega)), if_pos (show (decide (cB d s < cB d q) || (cB d s == cB d q && decide (pc8 s < pc8 q))) = true by simp [q1])]
      · rw [if_neg (a_nlt _ (by omega) (by omega))]
        by_cases q2 : cB d s = cB d q
        · rw [if_pos (congrArg nI q2), r_many (by omega) hN, Option.bind_some]
          dsimp only
          rw [r_many (by omega) hN, Option.bind_some]
          dsimp only
          by_cases q3 : pc8 s < pc8 q
          · rw [if_neg (a_nle _ q3 (by omega)), if_pos (show (decide (cB d s < cB d q) || (cB d s == cB d q && decide (pc8 s < pc8 q))) = true by rw [q2]; simp [q3])]
          · rw [if_pos (a_le _ (by omega) (by omega)), if_neg (show ¬ (decide (cB d s < cB d q) || (cB d s == cB d q && decide (pc8 s < pc8 q))) = true by rw [q2]; simp [q3])]
        · rw [if_neg (a_ne _ q2 (by omega) (by omega)), if_neg (show ¬ (decide (cB d s < cB d q) || (cB d s == cB d q && decide (pc8 s < pc8 q))) = true by simp [q1, q2])]
  rw [hgo]
  by_cases q1 : alB d p s = true ∧ cB d s ≤ nC (dN d) p
  · rw [if_pos q1]
    by_cases q2 : btr (cB d) b s = true
    · rw [if_pos q2, if_pos ⟨q1, q2⟩]
    · rw [if_neg q2, if_neg (fun z => q2 z.2), h0 _ _ (Or.inr rfl)]
  · rw [if_neg q1, h0 _ _ (Or.inl rfl)]
    exact (if_neg (fun z => q1 z.1)).symm
/-- the answer of the reference's walk -/
def bA (C : Nat → Nat) (k : Nat) : Option Nat → Int32
  | none => -1
  | some q => if k = 0 then nI (C q) else nI q
theorem r_b79 {d : Dt} {N p x k : Nat} {x5 : Int32} {en : Nat → Bool} (ok : OK d) (hp : p < tP (dT d)) (hx : x ≤ 100) (hk : k ≤ 1) (hN : 300 < N) (hen : ∀ (k79 : Int32 → Int32 → Int32 → Int32 → Int32 → Int32 → Int32 → g_St → Option (Int32 × g_St)) x6 x7 s σ, RR d σ → s < 2 ^ tK (dT d) → ∃ τ, m_X11_buy_257 k79 N (nI p) (nI x) (nI k) x5 x6 x7 (nI s) (nI (cB d s)) 1 1 σ = (if en s = true then k79 (nI p) (nI x) (nI k) x5 (nI s) (nI (cB d s)) (nI (s + 1)) τ else k79 (nI p) (nI x) (nI k) x5 x6 x7 (nI (s + 1)) τ) ∧ (∀ c, c ≠ 83 → c ≠ 84 → c ≠ 85 → τ.1 c = σ.1 c) ∧ τ.2 = σ.2) : ∀ m s b fu σ, s + m = 2 ^ tK (dT d) → m < fu → bOK (cB d) (nC (dN d) p) (2 ^ tK (dT d)) b → RR d σ → ∃ τ, m_X11_buy_79 N fu (nI p) (nI x) (nI k) x5 (plv b) (nI (bCs (cB d) b)) (nI s) σ = some (bA (cB d) k (bF (cB d) (alB d p) en (nC (dN d) p) m s b), τ) ∧ (∀ c, c ≠ 83 → c ≠ 84 → c ≠ 85 → τ.1 c = σ.1 c) ∧ τ.2 = σ.2 := by
  have hK : tK (dT d) ≤ 8 := ok.1.2.1
  have hp8 := pow8 hK
  intro m
  induction m with
  | zero =>
    intro s b fu σ hs hf hb h
    obtain ⟨fu, rfl⟩ : ∃ f, fu = f + 1 := ⟨fu - 1, by omega⟩
    refine ⟨σ, ?_, fun c _ _ _ => rfl, rfl⟩
    unfold m_X11_buy_79 m_X11_all
    rw [Option.bind_some]
    dsimp only
    have := two_pos (tK (dT d))
    rw [h.1.1.2.1, u_all (tK (dT d)) (by omega), if_pos (a_lt s (by omega) (by omega)), show bF (cB d) (alB d p) en (nC (dN d) p) 0 s b = b from rfl]
    cases b with
    | none => rw [if_pos (show plv none = -1 from rfl)]; rfl
    | some q =>
      have hq := hb q rfl
      rw [if_neg (show ¬ plv (some q) = -1 by show ¬ nI q = -1; rw [u_m1 (by omega)]; exact id)]
      by_cases k0 : k = 0
      · rw [k0, if_pos (show nI 0 = 0 from rfl)]; rfl
      · rw [if_neg (nI_ne0 (by omega) (by omega))]
        show some (nI q, σ) = some (if k = 0 then nI (cB d q) else nI q, σ)
        rw [if_neg k0]
  | succ m ih =>
    intro s b fu σ hs hf hb h
    obtain ⟨fu, rfl⟩ : ∃ f, fu = f + 1 := ⟨fu - 1, by omega⟩
    have hs2 : s < 2 ^ tK (dT d) := by omega
    have e1 : m_X11_buy_79 N (fu + 1) (nI p) (nI x) (nI k) x5 (plv b) (nI (bCs (cB d) b)) (nI s) σ = if (alB d p s = true ∧ cB d s ≤ nC (dN d) p) ∧ btr (cB d) b s = true then m_X11_buy_257 (m_X11_buy_79 N fu) N (nI p) (nI x) (nI k) x5 (plv b) (nI (bCs (cB d) b)) (nI s) (nI (cB d s)) 1 1 σ else m_X11_buy_79 N fu (nI p) (nI x) (nI k) x5 (plv b) (nI (bCs (cB d) b)) (nI (s + 1)) σ := by
      conv => lhs; unfold m_X11_buy_79 m_X11_all
      rw [Option.bind_some]
      dsimp only
      rw [h.1.1.2.1, u_all (tK (dT d)) (by omega), if_neg (a_nlt s (by omega) (by omega))]
      have e := r_b97 (N := N) (s := s) (x3 := nI x) (x4 := nI k) (x5 := x5) (x6 := plv b) (x7 := nI (bCs (cB d) b)) (k79 := m_X11_buy_79 N fu) ok h hp hs2 (tK (dT d)) 0 N (by omega) (by omega)
      rw [show (if frB (dN d) p s 0 = true then (1 : Int32) else 0) = 1 from rfl, show wsm (nP (dN d)) s 0 = 0 from rfl] at e
      exact e.trans (r_b217 ok hs2 (by omega) hb)
    rw [e1]
    by_cases q : (alB d p s = true ∧ cB d s ≤ nC (dN d) p) ∧ btr (cB d) b s = true
    · rw [if_pos q]
      obtain ⟨y, y1, y2, y3⟩ := hen (m_X11_buy_79 N fu) (plv b) (nI (bCs (cB d) b)) s σ h hs2
      rw [y1]
      have hy : RR d y := RR_fr h (fun c _ c1 c2 c3 _ _ _ => y2 c c1 c2 c3)
      by_cases he : en s = true
      · rw [if_pos he]
        have e : bS (cB d) (alB d p) en (nC (dN d) p) b s = some s := by
          unfold bS
          rw [if_pos]
          rw [q.1.1, q.2, he]; simp [q.1.2]
        obtain ⟨τ, t1, t2, t3⟩ := ih (s + 1) (some s) fu y (by omega) (by omega) (by rw [← e]; exact bOK_s hb hs2) hy
        refine ⟨τ, ?_, fun c c1 c2 c3 => (t2 c c1 c2 c3).trans (y2 c c1 c2 c3), t3.trans y3⟩
        rw [bF_s, e]
        exact t1
      · rw [if_neg he]
        have e : bS (cB d) (alB d p) en (nC (dN d) p) b s = b := by
          unfold bS
          rw [if_neg]
          simp [he]
        obtain ⟨τ, t1, t2, t3⟩ := ih (s + 1) b fu y (by omega) (by omega) hb hy
        refine ⟨τ, ?_, fun c c1 c2 c3 => (t2 c c1 c2 c3).trans (y2 c c1 c2 c3), t3.trans y3⟩
        rw [bF_s, e]
        exact t1
    · rw [if_neg q]
      have e : bS (cB d) (alB d p) en (nC (dN d) p) b s = b := by
        unfold bS
        rw [if_neg]
        intro z
        simp only [Bool.and_eq_true, decide_eq_true_eq] at z
        exact q ⟨z.1.1, z.1.2⟩
      obtain ⟨τ, t1, t2, t3⟩ := ih (s + 1) b fu σ (by omega) (by omega) hb h
      refine ⟨τ, ?_, t2, t3⟩
      rw [bF_s, e]
      exact t1

theorem aP {σ : g_St} (x : Int32) : m_X10_isRight x σ = some (if g_in x 4 then 1 else 0, σ) := by
  unfold m_X10_isRight
  rcases i_cases x 4 (by omega) with ⟨t, ht, rfl⟩ | hx
  · rw [if_neg (nI_pos (by omega)), if_neg (show ¬ (4 : Int32) ≤ nI t from a_nle (a := 4) t (by omega) (by omega)), if_pos (a_in ht (by omega))]
  · rw [if_neg (a_out (by omega) hx)]
    rcases hx with q | q
    · rw [if_pos q]
    · by_cases q3 : x < 0
      · rw [if_pos q3]
      · rw [if_neg q3, if_pos (show (4 : Int32) ≤ x from q)]
theorem nP_sub {a b : Nat} (ha : a ≤ 99) (hb : b ≤ 999) (h : a ≤ b) : nI a - nI b ≤ 0 := by
  have h1 : (nI a - nI b).toInt = (a : Int) - b := by
    rw [Int32.toInt_sub, nI_toInt (by omega), nI_toInt (by omega)]
    rw [Int.bmod_eq_of_le (by omega) (by omega)]
  rw [Int32.le_iff_toInt_le, h1]
  have : (0 : Int32).toInt = 0 := by decide
  omega
set_option maxHeartbeats 1000000 in
theorem sp_buy (N : Nat) (hN : 300 < N) (x1 x2 x3 x4 : Int32) : Sp (m_X10_buy N x1 x2 x3 x4) (m_X11_buy N x1 x2 x3 x4) := by
  intro d ok
  have hP6 : tP (dT d) ≤ 6 := ok.1.1
  have hK8 : tK (dT d) ≤ 8 := ok.1.2.1
  have hp8 := pow8 hK8
  have e0 : (0 : Int64) = (nI 0).toInt64 := by decide
  have e1 : (1 : Int64) = (nI 1).toInt64 := by decide
  have e33 : (3 : Int64) = (nI 4 - 1).toInt64 := by decide
  have e100 : (100 : Int64) = (nI 100).toInt64 := by decide
  rcases i_cases x1 (tP (dT d)) (by omega) with ⟨p, hp, rfl⟩ | hx
  · have hin : g_in (nI p) (tP (dT d)) := a_in hp (by omega)
    rcases i_cases x2 4 (by omega) with ⟨r, hr, rfl⟩ | hx2
    · have hin2 : g_in (nI r) 4 := a_in hr (by omega)
      have cpre : ∀ σ, CC d σ → m_X10_buy N (nI p) (nI r) x3 x4 σ = (if x3 < 0 then some ((-1000000002 : Int32), σ) else (if (100 : Int32) < x3 then some ((-1000000002 : Int32), σ) else (if x4 < 0 then some ((-1000000002 : Int32), σ) else (if x4 ≤ (1 : Int32) then ((m_X10_cheapest N (nI p) (nI (tG (dT d) r) - nI (nA (dN d) p)) ((10000000 : Int64) * (x3).toInt64) σ).bind fun q11 => (if q11.1 = (-1 : Int32) then some (q11.1, q11.2) else (if x4 = (1 : Int32) then some (q11.1, q11.2) else ((m_X4_priceOf N q11.1 q11.2).bind fun q14 => some (q14.1, q14.2))))) else some ((-1000000002 : Int32), σ))))) := fun σ h => by
        unfold m_X10_buy
        rw [c_isP (nI p) h.1.1.1 (by omega), Option.bind_some]
        dsimp only
        rw [if_pos hin, if_neg n10, aP, Option.bind_some]
        dsimp only
        rw [if_pos hin2, if_neg n10, if_pos hin2, if_pos (a_in (show p < 6 by omega) (by omega)), nI_clamp (by omega), nI_clamp (by omega), h.1.1.2.2.2.2.1 r hr, (h.1.2.1.2.2.2.1 p hp).1]
      have rpre : ∀ σ, RR d σ → m_X11_buy N (nI p) (nI r) x3 x4 σ = (if (if nI 0 ≤ x3 ∧ x3 ≤ nI 100 then (1 : Int32) else 0) = 0 then some ((-1000000002 : Int32), σ) else (if (if nI 0 ≤ x4 ∧ x4 ≤ nI 1 then (1 : Int32) else 0) = 0 then some ((-1000000002 : Int32), σ) else m_X11_buy_79 N N (nI p) x3 x4 (nI (tG (dT d) r) - nI (nA (dN d) p)) (-1 : Int32) (0 : Int32) (0 : Int32) σ)) := fun σ h => by
        unfold m_X11_buy g_lt
        rw [r_isP (nI p) h.1.1.1 (by omega), Option.bind_some]
        dsimp only
        rw [if_pos hin, if_neg n10, e33, r_inN (nI r) 4 (by omega), Option.bind_some]
        dsimp only
        rw [if_pos hin2, if_neg n10, e0, e1, e100, r_inR, Option.bind_some]
        dsimp only
        rw [r_inR, Option.bind_some]
        dsimp only
        rw [show (5 : Int32) + nI r = nI (5 + r) from nI_add 5 r, if_pos (a_in (show 5 + r < 45 by omega) (by omega)), nI_clamp (by omega), h.1.1.2.2.2.2.1 r hr, show (3 : Int32) + ((2 : Int32) * nI p) = nI (3 + 2 * p) from e3 p, if_pos (a_in (show 3 + 2 * p < 39 by omega) (by omega)), nI_clamp (by omega), (h.1.2.1.2.2.2.1 p hp).1]
      rcases rng_cases x3 0 100 (by omega) (by omega) with ⟨x, _, hx100, rfl⟩ | hx3
      · rcases rng_cases x4 0 1 (by omega) (by omega) with ⟨k, _, hk, rfl⟩ | hx4
        · have r3 : nI 0 ≤ nI x ∧ nI x ≤ nI 100 := ⟨a_le x (by omega) (by omega), a_le 100 hx100 (by omega)⟩
          have r4 : nI 0 ≤ nI k ∧ nI k ≤ nI 1 := ⟨a_le k (by omega) (by omega), a_le 1 hk (by omega)⟩
          have cpre2 : ∀ σ, CC d σ → m_X10_buy N (nI p) (nI r) (nI x) (nI k) σ = ((m_X10_cheapest N (nI p) (nI (tG (dT d) r) - nI (nA (dN d) p)) (lN (10000000 * x)) σ).bind fun q11 => (if q11.1 = (-1 : Int32) then some (q11.1, q11.2) else (if nI k = (1 : Int32) then some (q11.1, q11.2) else ((m_X4_priceOf N q11.1 q11.2).bind fun q14 => some (q14.1, q14.2))))) := fun σ h => by
            rw [cpre σ h, if_neg (nI_pos (by omega)), if_neg (show ¬ (100 : Int32) < nI x from a_nlt (a := 100) x (by omega) (by omega)), if_neg (nI_pos (by omega)), if_pos (show nI k ≤ (1 : Int32) from r4.2), nI_l (by omega), show (10000000 : Int64) * lN x = lN (10000000 * x) from lN_mul 10000000 x]
          have rpre2 : ∀ σ, RR d σ → m_X11_buy N (nI p) (nI r) (nI x) (nI k) σ = m_X11_buy_79 N N (nI p) (nI x) (nI k) (nI (tG (dT d) r) - nI (nA (dN d) p)) (-1 : Int32) (0 : Int32) (0 : Int32) σ := fun σ h => by
            rw [rpre σ h, if_pos r3, if_neg n10, if_pos r4, if_neg n10]
          have hg := ok.1.2.2.2.2.2.1 r hr
          have ha := (ok.2.1.2.2.2.2.1 p hp).1
          have hco := (ok.2.1.2.2.2.2.1 p hp).2
          have hY8 := ok.1.2.2.2.1
          have hDY := ok.2.1.2.1
          have hD : nS (dN d) < 2 ^ tK (dT d) := ok.2.1.2.2.1
          have hn : tY (dT d) - nD (dN d) ≤ 8 := by omega
          have hoth := setP_lt (frS (dN d) p) (tK (dT d))
          have bno : bOK (cB d) (nC (dN d) p) (2 ^ tK (dT d)) none := fun q hq => by cases hq
          -- the class's answer from the set found
          have cend : ∀ (b : Option Nat) (τ : g_St), bOK (cB d) (nC (dN d) p) (2 ^ tK (dT d)) b → CC d τ → (if plv b = (-1 : Int32) then some (plv b, τ) else (if nI k = (1 : Int32) then some (plv b, τ) else ((m_X4_priceOf N (plv b) τ).bind fun q14 => some (q14.1, q14.2)))) = some (bA (cB d) k b, τ) := fun b τ hb hτ => by
            cases b with
            | none => rw [if_pos (show plv none = -1 from rfl)]; rfl
            | some q =>
              have hq := hb q rfl
              rw [if_neg (show ¬ plv (some q) = -1 by show ¬ nI q = -1; rw [u_m1 (by omega)]; exact id), show plv (some q) = nI q from rfl]
              show _ = some (if k = 0 then nI (cB d q) else nI q, τ)
              by_cases k0 : k = 0
              · rw [k0, if_neg (show ¬ nI 0 = (1 : Int32) by decide), if_pos rfl, c_price ok.1 hτ.1.2.1 hq.1 (by omega), Option.bind_some]
              · rw [show k = 1 by omega, if_pos (show nI 1 = (1 : Int32) from rfl), if_neg (by omega)]
          by_cases hnd : tG (dT d) r ≤ nA (dN d) p
          · -- nothing is needed
            have hz := nP_sub hg ha hnd
            refine ⟨bA (cB d) k (some 0), d, ok, fun σ h => ⟨σ, ?_, h, keepR_rf σ⟩, fun σ h => ?_⟩
            · rw [cpre2 σ h]
              unfold m_X10_cheapest
              rw [if_neg (show ¬ (0 : Int32) < nI (tG (dT d) r) - nI (nA (dN d) p) from Int32.not_lt.mpr hz), Option.bind_some]
              exact cend (some 0) σ (fun q hq => by cases hq; exact ⟨by have := two_pos (tK (dT d)); omega, by rw [show cB d 0 = 0 by have : ∀ K, wsm (nP (dN d)) 0 K = 0 := (fun K => by induction K with | zero => rfl | succ K ih => rw [wsm_s, ih, bt_0]; rfl); exact this _]; omega⟩) h
            · have c0 : cB d 0 = 0 := by
                have : ∀ K, wsm (nP (dN d)) 0 K = 0 := (fun K => by induction K with | zero => rfl | succ K ih => rw [wsm_s, ih, bt_0]; rfl)
                exact this _
              have a0 : alB d p 0 = true := (frB_iff (tK (dT d))).mpr (fun t _ hb => by rw [bt_0] at hb; exact absurd hb (by simp))
              obtain ⟨τ, t1, t2, t3⟩ := r_b79 (N := N) (p := p) (x := x) (k := k) (x5 := nI (tG (dT d) r) - nI (nA (dN d) p)) (en := fun _ => true) ok hp hx100 hk hN (fun k79 x6 x7 s σ hσ hs => ⟨σ, by
                rw [if_pos rfl]
                unfold m_X11_buy_257 m_X11_buy_316 m_X11_buy_324 g_lt
                rw [if_neg n10, if_neg n10, if_pos hz, nI_1], fun c _ _ _ => rfl, rfl⟩) (2 ^ tK (dT d)) 0 none N σ (by omega) (by omega) bno h
              refine ⟨τ, ?_, RR_fr h (fun c _ c1 c2 c3 _ _ _ => t2 c c1 c2 c3), fun c hc => ⟨t2 c (by omega) (by omega) (by omega), by rw [t3]⟩⟩
              have e : bF (cB d) (alB d p) (fun _ => true) (nC (dN d) p) (2 ^ tK (dT d)) 0 none = some 0 := by
                obtain ⟨m, hm⟩ : ∃ m, 2 ^ tK (dT d) = m + 1 := ⟨2 ^ tK (dT d) - 1, by have := two_pos (tK (dT d)); omega⟩
                rw [hm, bF_s]
                have e2 : bS (cB d) (alB d p) (fun _ => true) (nC (dN d) p) none 0 = some 0 := by
                  unfold bS
                  rw [if_pos]
                  rw [a0, c0]; simp [btr]
                rw [e2]
                exact bF_0 c0 m 1
              rw [e] at t1
              rw [rpre2 σ h]
              exact t1
          · obtain ⟨v, hv⟩ : ∃ v, tG (dT d) r - nA (dN d) p = v := ⟨_, rfl⟩
            have hvv : nI (tG (dT d) r) - nI (nA (dN d) p) = nI v := by rw [pk_sub (by omega), hv]
            have hsame : bF (cB d) (alB d p) (enB d p v x) (nC (dN d) p) (2 ^ tK (dT d)) 0 none = bF (cB d) (alB d p) (enB d p v x) (nC (dN d) p) (setP (frS (dN d) p) (tK (dT d)) + 1) 0 none := by
              have e := bF_add (C := cB d) (al := alB d p) (en := enB d p v x) (co := nC (dN d) p) (k := 2 ^ tK (dT d) - (setP (frS (dN d) p) (tK (dT d)) + 1)) (setP (frS (dN d) p) (tK (dT d)) + 1) 0 none
              rw [show setP (frS (dN d) p) (tK (dT d)) + 1 + (2 ^ tK (dT d) - (setP (frS (dN d) p) (tK (dT d)) + 1)) = 2 ^ tK (dT d) by omega] at e
              rw [e]
              refine bF_stay _ _ _ (fun z h1 h2 => ?_)
              apply Classical.byContradiction
              intro q
              have := sub_le (v := dN d) (p := p) hK8 (show z < 2 ^ tK (dT d) by omega) (by simpa using q)
              omega
            have hbo := bOK_F (C := cB d) (al := alB d p) (en := enB d p v x) (co := nC (dN d) p) (n := 2 ^ tK (dT d)) (setP (frS (dN d) p) (tK (dT d)) + 1) 0 none (by omega) bno
            refine ⟨bA (cB d) k (bF (cB d) (alB d p) (enB d p v x) (nC (dN d) p) (setP (frS (dN d) p) (tK (dT d)) + 1) 0 none), d, ok, fun σ h => ?_, fun σ h => ?_⟩
            · obtain ⟨y, y1, y2, y3, y4⟩ := c_begin (N := N) (n := tY (dT d) - nD (dN d)) ok.1 hD hn hN h.1.1
              have hCy : CC d y := CC_ch h (fun c hc => y3 c (by omega) (by omega))
              obtain ⟨τ, t1, t2, t3⟩ := c_cheap (N := N) (p := p) (v := v) (x := x) ok hp (by omega) hx100 hN (setP (frS (dN d) p) (tK (dT d)) + 1) 0 none N y (by omega) (by omega) bno hCy y2
              have hCt : CC d τ := CC_ch hCy (fun c _ => by rw [t2])
              refine ⟨τ, ?_, hCt, fun c hc => ⟨by rw [t2, y3 c (by omega) (by omega)], by rw [t3 c (by omega), y4 c (by omega)]⟩⟩
              rw [cpre2 σ h, hvv]
              unfold m_X10_cheapest m_X4_forSaleTo g_lt
              have hsl := c_sale_loop (N := N) (p := p) ok.1 ok.2.1 hCy.1.2.1 (by omega) (tK (dT d)) 0 N (by omega) (by omega)
              rw [show nI (setP (frS (dN d) p) 0) = 0 from rfl] at hsl
              rw [if_pos (show (0 : Int32) < nI v from a_lt (a := 0) v (by omega) (by omega)), h.1.2.1.2.2.1, h.1.1.2.2.1, h.1.2.1.2.1, pk_sub (by omega), y1, Option.bind_some, hCy.1.1.2.1, c_age ok.1 ok.2.1 hCy.1.2.1 (by omega) (by omega), Option.bind_some]
              dsimp only
              rw [hCy.1.1.2.1, show (0 : Int32) = nI 0 from rfl] at *
              rw [hsl, Option.bind_some]
              dsimp only
              rw [if_pos (a_in (show p < 6 by omega) (by omega)), nI_clamp (by omega), (hCy.1.2.1.2.2.2.1 p hp).2, nI_1]
              rw [show m_X10_cheapest_95 N N (nI v) (lN (10000000 * x)) (nI (setP (fun t => who (dN d) t == p) (tK (dT d)))) (nI (setP (frS (dN d) p) (tK (dT d)))) (-1) (nI (nC (dN d) p + 1)) (nI 0) (nI 0) y = _ from t1, Option.bind_some]
              exact cend _ τ hbo hCt
            · obtain ⟨τ, t1, t2, t3⟩ := r_b79 (N := N) (p := p) (x := x) (k := k) (x5 := nI v) (en := enB d p v x) ok hp hx100 hk hN (fun k79 x6 x7 s σ hσ hs => by
                have hMs : ownS d p ||| s < 256 := or_lt (own_lt ok p) (by omega)
                have hOD := OD_le (D := nS (dN d)) (M := ownS d p ||| s) (v := v) (n := tY (dT d) - nD (dN d)) ok.1 (by omega) hn
                have fin : ∀ τ, m_X11_buy_309 k79 N (nI p) (nI x) (nI k) (nI v) x6 x7 (nI s) (nI (cB d s)) (nI (OD (dT d) (nS (dN d)) (ownS d p ||| s) v (tY (dT d) - nD (dN d)))) τ = (if enB d p v x s = true then k79 (nI p) (nI x) (nI k) (nI v) (nI s) (nI (cB d s)) (nI (s + 1)) τ else k79 (nI p) (nI x) (nI k) (nI v) x6 x7 (nI (s + 1)) τ) := fun τ => by
                  unfold m_X11_buy_309 m_X11_buy_316 m_X11_buy_324 g_lt
                  rw [show (10000000 : Int32) * nI x = nI (10000000 * x) from pk_mul 10000000 x, nI_1]
                  by_cases q : 10000000 * x ≤ OD (dT d) (nS (dN d)) (ownS d p ||| s) v (tY (dT d) - nD (dN d))
                  · rw [if_neg (a_nlt _ q (by omega)), if_pos (by simp [q])]
                  · rw [if_pos (a_lt _ (by omega) (by omega)), if_neg (by simp [q])]
                by_cases hv8 : v ≤ 8
                · obtain ⟨τ, t1, t2, t3⟩ := r_oddsOf (N := N) (D := nS (dN d)) (M := ownS d p ||| s) (v := v) (n := tY (dT d) - nD (dN d)) ok.1 (by omega) hMs hv8 hn hN hσ.1.1
                  refine ⟨τ, ?_, t2, t3⟩
                  rw [← fin τ]
                  conv => lhs; unfold m_X11_buy_257
                  rw [if_neg n10, if_neg n10, if_neg (nI_nle (by omega) (by omega)), if_pos (show nI v ≤ (8 : Int32) from a_le 8 hv8 (by omega)), r_own ok.1 ok.2.1 hσ.1.1.2.1 hσ.1.2.1 (by omega) (by omega), Option.bind_some]
                  unfold m_X11_rest
                  rw [Option.bind_some]
                  dsimp only
                  rw [hσ.1.1.2.2.1, hσ.1.2.1.2.1, hσ.1.2.1.2.2.1, pk_sub (by omega), nI_or, t1, Option.bind_some]
                · refine ⟨σ, ?_, fun c _ _ _ => rfl, rfl⟩
                  rw [← fin σ, OD_9 (by omega) (by omega)]
                  conv => lhs; unfold m_X11_buy_257
                  rw [if_neg n10, if_neg n10, if_neg (nI_nle (by omega) (by omega)), if_neg (show ¬ nI v ≤ (8 : Int32) from a_nle 8 (by omega) (by omega))]
                  rfl) (2 ^ tK (dT d)) 0 none N σ (by omega) (by omega) bno h
              refine ⟨τ, ?_, RR_fr h (fun c _ c1 c2 c3 _ _ _ => t2 c c1 c2 c3), fun c hc => ⟨t2 c (by omega) (by omega) (by omega), by rw [t3]⟩⟩
              rw [hsame] at t1
              rw [rpre2 σ h, hvv]
              exact t1
        · refine ⟨-1000000002, d, ok, fun σ h => ⟨σ, ?_, h, keepR_rf σ⟩, fun σ h => ⟨σ, ?_, h, keepC_rf σ⟩⟩
          · rw [cpre σ h, if_neg (nI_pos (by omega)), if_neg (show ¬ (100 : Int32) < nI x from a_nlt (a := 100) x (by omega) (by omega))]
            by_cases q : x4 < 0
            · rw [if_pos q]
            · rw [if_neg q, if_neg (show ¬ x4 ≤ (1 : Int32) from fun q2 => hx4 ⟨lt_nle q, q2⟩)]
          · rw [rpre σ h, if_pos (show nI 0 ≤ nI x ∧ nI x ≤ nI 100 from ⟨a_le x (by omega) (by omega), a_le 100 hx100 (by omega)⟩), if_neg n10, if_neg hx4, if_pos rfl]
      · refine ⟨-1000000002, d, ok, fun σ h => ⟨σ, ?_, h, keepR_rf σ⟩, fun σ h => ⟨σ, ?_, h, keepC_rf σ⟩⟩
        · rw [cpre σ h]
          by_cases q : x3 < 0
          · rw [if_pos q]
          · rw [if_neg q, if_pos (show (100 : Int32) < x3 from Int32.not_le.mp (fun q2 => hx3 ⟨lt_nle q, q2⟩))]
        · rw [rpre σ h, if_neg hx3, if_pos rfl]
    · have hout : ¬ g_in x2 4 := a_out (by omega) hx2
      refine ⟨-1000000002, d, ok, fun σ h => ⟨σ, ?_, h, keepR_rf σ⟩, fun σ h => ⟨σ, ?_, h, keepC_rf σ⟩⟩
      · unfold m_X10_buy
        rw [c_isP (nI p) h.1.1.1 (by omega), Option.bind_some]
        dsimp only
        rw [if_pos hin, if_neg n10, aP, Option.bind_some]
        dsimp only
        rw [if_neg hout, if_pos rfl]
      · unfold m_X11_buy
        rw [r_isP (nI p) h.1.1.1 (by omega), Option.bind_some]
        dsimp only
        rw [if_pos hin, if_neg n10, e33, r_inN x2 4 (by omega), Option.bind_some]
        dsimp only
        rw [if_neg hout, if_pos rfl]
  · have hout : ¬ g_in x1 (tP (dT d)) := a_out (by omega) hx
    refine ⟨-1000000001, d, ok, fun σ h => ⟨σ, ?_, h, keepR_rf σ⟩, fun σ h => ⟨σ, ?_, h, keepC_rf σ⟩⟩
    · unfold m_X10_buy
      rw [c_isP x1 h.1.1.1 (by omega), Option.bind_some]
      dsimp only
      rw [if_neg hout, if_pos rfl]
    · unfold m_X11_buy
      rw [r_isP x1 h.1.1.1 (by omega), Option.bind_some]
      dsimp only
      rw [if_neg hout, if_pos rfl]
