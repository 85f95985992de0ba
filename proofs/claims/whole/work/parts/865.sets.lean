/-! sums and sets over tickets, ages over people -/
def wsm (w : Nat → Nat) (S : Nat) : Nat → Nat
  | 0 => 0
  | t + 1 => wsm w S t + (if bt S t then w t else 0)
theorem wsm_s (w : Nat → Nat) (S t : Nat) : wsm w S (t + 1) = wsm w S t + (if bt S t then w t else 0) := rfl
theorem wsm_le {w : Nat → Nat} {S b : Nat} : ∀ K, (∀ t, t < K → w t ≤ b) → wsm w S K ≤ b * K
  | 0, _ => by simp [wsm]
  | K + 1, h => by
    have h1 := wsm_le (S := S) K (fun t ht => h t (by omega))
    have h2 := h K (by omega)
    have h3 : b * (K + 1) = b * K + b := Nat.mul_succ b K
    unfold wsm
    split <;> omega
def who (v : Nw) (t : Nat) : Nat := (nL v t).getD (nH v t)
theorem who_lt {w : Tw} {v : Nw} {t : Nat} (h : NwOK w v) (ht : t < tK w) : who v t < tP w := by
  obtain ⟨h1, h2, h3, h4, h5, h6⟩ := h
  obtain ⟨a1, a2, a3⟩ := h6 t ht
  unfold who
  cases e : nL v t with
  | none => exact a1
  | some q => exact a2 q e
def setP (P : Nat → Bool) : Nat → Nat
  | 0 => 0
  | t + 1 => if P t then st1 (setP P t) t else setP P t
theorem setP_lt (P : Nat → Bool) : ∀ t, setP P t < 2 ^ t
  | 0 => by simp [setP]
  | t + 1 => by
    have h := setP_lt P t
    have e : 2 ^ (t + 1) = 2 ^ t + 2 ^ t := by rw [Nat.pow_succ]; omega
    unfold setP
    split
    · exact Nat.or_lt_two_pow (by omega) (Nat.pow_lt_pow_right (by omega) (by omega))
    · omega
theorem pow8 {t : Nat} (h : t ≤ 8) : 2 ^ t ≤ 256 := Nat.pow_le_pow_right (n := 2) (by omega) h
theorem nI_or0 : ∀ S, S < 256 → nI S ||| 0 = nI S := by decide +kernel
theorem bit1 {S t : Nat} (hS : S < 256) (ht : t < 8) (h : bt S t = true) : (nI S >>> (nI t &&& 31)) &&& 1 = 1 := by rw [u_bit S hS t ht, if_pos h]; rfl
theorem bit0 {S t : Nat} (hS : S < 256) (ht : t < 8) (h : ¬ bt S t = true) : (nI S >>> (nI t &&& 31)) &&& 1 = 0 := by rw [u_bit S hS t ht, if_neg h]; rfl
theorem n01 : ¬ (0 : Int32) = 1 := by decide
theorem c_wt_loop {σ : g_St} {K S N : Nat} {w : Nat → Nat} (hK : σ.1 13 3 = nI K) (hK8 : K ≤ 8) (hw : ∀ t, t < K → σ.1 14 t = nI (w t)) (hS : S < 256) : ∀ d t fu, t + d = K → d < fu → m_X7_weightOf_4 N fu (nI S) (nI (wsm w S t)) (nI t) σ = some (nI (wsm w S K), σ) := by
  intro d
  induction d with
  | zero =>
    intro t fu ht hf
    obtain ⟨fu, rfl⟩ : ∃ f, fu = f + 1 := ⟨fu - 1, by omega⟩
    unfold m_X7_weightOf_4
    rw [hK, if_pos (a_le t (by omega) (by omega)), show t = K by omega]
  | succ d ih =>
    intro t fu ht hf
    obtain ⟨fu, rfl⟩ : ∃ f, fu = f + 1 := ⟨fu - 1, by omega⟩
    have hn := ih (t + 1) fu (by omega) (by omega)
    unfold m_X7_weightOf_4 m_X10_holds
    rw [hK, if_neg (a_nle (a := K) t (by omega) (by omega))]
    unfold m_X7_weightOf_29 g_lt
    by_cases hb : bt S t = true
    · rw [bit1 hS (by omega) hb, if_neg n10, Option.bind_some]
      simp only [if_neg n10, if_pos (a_in (show t < 8 by omega) (by omega)), nI_clamp (show t < 2 ^ 31 by omega), hw t (by omega), nI_add, nI_1]
      rw [wsm_s, if_pos hb] at hn
      exact hn
    · rw [bit0 hS (by omega) hb, if_pos rfl, Option.bind_some]
      simp only [if_true, nI_1]
      rw [wsm_s, if_neg hb] at hn
      exact hn
theorem c_wt {σ : g_St} {K S N : Nat} {w : Nat → Nat} (hK : σ.1 13 3 = nI K) (hK8 : K ≤ 8) (hw : ∀ t, t < K → σ.1 14 t = nI (w t)) (hS : S < 256) (hN : 8 < N) : m_X7_weightOf N (nI S) σ = some (nI (wsm w S K), σ) := by
  unfold m_X7_weightOf
  exact c_wt_loop hK hK8 hw hS K 0 N (by omega) (by omega)
theorem r_w1 {σ : g_St} {t W : Nat} (ht : t < 8) (hw : σ.1 79 (21 + 3 * t + 1) = nI W) : m_X11_weight (nI t) σ = some (nI W, σ) := by
  have e : ((21 : Int32) + ((3 : Int32) * nI t)) + (1 : Int32) = nI (21 + 3 * t + 1) := by
    show (nI 21 + nI 3 * nI t) + nI 1 = _
    rw [pk_mul, nI_add, nI_add]
  unfold m_X11_weight
  rw [e, if_pos (a_in (by omega) (by omega)), nI_clamp (by omega), hw]
theorem r_wt_loop {σ : g_St} {K S N : Nat} {w : Nat → Nat} (hK : σ.1 79 1 = nI K) (hK8 : K ≤ 8) (hw : ∀ t, t < K → σ.1 79 (21 + 3 * t + 1) = nI (w t)) (hS : S < 256) : ∀ d t fu, t + d = K → d < fu → m_X11_weightOf_4 N fu (nI S) (nI (wsm w S t)) (nI t) σ = some (nI (wsm w S K), σ) := by
  intro d
  induction d with
  | zero =>
    intro t fu ht hf
    obtain ⟨fu, rfl⟩ : ∃ f, fu = f + 1 := ⟨fu - 1, by omega⟩
    unfold m_X11_weightOf_4
    rw [hK, if_pos (a_le t (by omega) (by omega)), show t = K by omega]
  | succ d ih =>
    intro t fu ht hf
    obtain ⟨fu, rfl⟩ : ∃ f, fu = f + 1 := ⟨fu - 1, by omega⟩
    have hn := ih (t + 1) fu (by omega) (by omega)
    unfold m_X11_weightOf_4
    rw [hK, if_neg (a_nle (a := K) t (by omega) (by omega))]
    unfold m_X11_weightOf_33 g_lt
    by_cases hb : bt S t = true
    · rw [bit1 hS (by omega) hb, if_pos rfl, r_w1 (by omega) (hw t (by omega)), Option.bind_some]
      simp only [nI_add, nI_1]
      rw [wsm_s, if_pos hb] at hn
      exact hn
    · rw [bit0 hS (by omega) hb, if_neg n01]
      have e0 : nI (wsm w S t) + 0 = nI (wsm w S t) := nI_add _ 0
      simp only [e0, nI_1]
      rw [wsm_s, if_neg hb] at hn
      exact hn
theorem r_wt {σ : g_St} {K S N : Nat} {w : Nat → Nat} (hK : σ.1 79 1 = nI K) (hK8 : K ≤ 8) (hw : ∀ t, t < K → σ.1 79 (21 + 3 * t + 1) = nI (w t)) (hS : S < 256) (hN : 8 < N) : m_X11_weightOf N (nI S) σ = some (nI (wsm w S K), σ) := by
  unfold m_X11_weightOf
  exact r_wt_loop hK hK8 hw hS K 0 N (by omega) (by omega)
theorem plv_m1 {o : Option Nat} (h : ∀ q, o = some q → q < 2 ^ 31) : (plv o = -1) ↔ o = none := by
  cases o with
  | none => exact ⟨fun _ => rfl, fun _ => rfl⟩
  | some q => exact ⟨fun h2 => by rw [show plv (some q) = nI q from rfl, u_m1 (h q rfl)] at h2; exact h2.elim, fun h2 => by cases h2⟩
theorem c_who {σ : g_St} {w : Tw} {v : Nw} {t : Nat} (hw : TwOK w) (hv : NwOK w v) (h : CN w v σ) (ht : t < tK w) : m_X4_whoAges (nI t) σ = some (nI (who v t), σ) := by
  have hP : tP w ≤ 6 := hw.1
  have hK : tK w ≤ 8 := hw.2.1
  obtain ⟨b1, b2, b3⟩ := h.2.2.2.2 t ht
  have hlt := who_lt hv ht
  obtain ⟨a1, a2, a3⟩ := hv.2.2.2.2.2 t ht
  have q2 : nI t < (8 : Int32) := a_lt 8 (by omega) (by omega)
  have hi : g_in (nI t) 8 := a_in (by omega) (by omega)
  unfold m_X4_whoAges
  rw [if_neg (nI_pos (by omega)), if_pos q2, if_pos hi, nI_clamp (by omega), b2, b1]
  unfold who
  cases e : nL v t with
  | none => rw [show plv none = -1 from rfl, if_pos rfl, if_pos hi]; rfl
  | some q =>
    have := a2 q e
    rw [show plv (some q) = nI q from rfl, if_neg (by rw [u_m1 (by omega)]; exact id), if_pos hi]
    rfl
theorem r_who {σ : g_St} {w : Tw} {v : Nw} {t : Nat} (hw : TwOK w) (hv : NwOK w v) (h : RN w v (σ.1 81)) (ht : t < tK w) : m_X11_who (nI t) σ = some (nI (who v t), σ) := by
  have hP : tP w ≤ 6 := hw.1
  have hK : tK w ≤ 8 := hw.2.1
  obtain ⟨b1, b2, b3⟩ := h.2.2.2.2 t ht
  obtain ⟨a1, a2, a3⟩ := hv.2.2.2.2.2 t ht
  have e1 : (15 : Int32) + ((3 : Int32) * nI t) = nI (15 + 3 * t) := by
    show nI 15 + nI 3 * nI t = _
    rw [pk_mul, nI_add]
  have e2 : nI (15 + 3 * t) + (1 : Int32) = nI (15 + 3 * t + 1) := nI_1 _
  unfold m_X11_who g_lt
  dsimp only
  rw [e1, e2, if_pos (a_in (by omega) (by omega)), nI_clamp (show 15 + 3 * t + 1 < 2 ^ 31 by omega), nI_clamp (show 15 + 3 * t < 2 ^ 31 by omega), b2, b1]
  unfold who
  cases e : nL v t with
  | none => rw [show plv none = -1 from rfl, if_pos rfl, if_pos (a_in (by omega) (by omega))]; rfl
  | some q =>
    have := a2 q e
    rw [show plv (some q) = nI q from rfl, if_neg (by rw [u_m1 (by omega)]; exact id)]
    rfl
/-! who ages by which tickets, who holds which -/
theorem or1 {S t : Nat} (hS : S < 256) (ht : t < 8) : nI S ||| ((1 : Int32) <<< (nI t &&& 31)) = nI (st1 S t) := by rw [u_shl t (by omega), u_or S hS t ht]
theorem setP_256 (P : Nat → Bool) {t : Nat} (h : t ≤ 8) : setP P t < 256 := Nat.lt_of_lt_of_le (setP_lt P t) (pow8 h)
theorem setP_s (P : Nat → Bool) (t : Nat) : setP P (t + 1) = if P t then st1 (setP P t) t else setP P t := rfl
theorem setP_congr {P Q : Nat → Bool} : ∀ K, (∀ t, t < K → P t = Q t) → setP P K = setP Q K
  | 0, _ => rfl
  | K + 1, h => by rw [setP_s, setP_s, setP_congr K (fun t ht => h t (by omega)), h K (by omega)]
theorem c_age_loop {σ : g_St} {w : Tw} {v : Nw} {p N : Nat} (hw : TwOK w) (hv : NwOK w v) (h : CN w v σ) (hp : p < 2 ^ 31) : ∀ d t fu, t + d = tK w → d < fu → m_X4_agingFor_5 N fu (nI p) (nI (tK w)) (nI (setP (fun t => who v t == p) t)) (nI t) σ = some (nI (setP (fun t => who v t == p) (tK w)), σ) := by
  have hP : tP w ≤ 6 := hw.1
  have hK : tK w ≤ 8 := hw.2.1
  intro d
  induction d with
  | zero =>
    intro t fu ht hf
    obtain ⟨fu, rfl⟩ : ∃ f, fu = f + 1 := ⟨fu - 1, by omega⟩
    unfold m_X4_agingFor_5
    rw [if_pos (a_le t (by omega) (by omega)), show t = tK w by omega]
  | succ d ih =>
    intro t fu ht hf
    obtain ⟨fu, rfl⟩ : ∃ f, fu = f + 1 := ⟨fu - 1, by omega⟩
    have hn := ih (t + 1) fu (by omega) (by omega)
    have hlt := who_lt hv (show t < tK w by omega)
    unfold m_X4_agingFor_5
    rw [if_neg (a_nle (a := tK w) t (by omega) (by omega)), c_who hw hv h (by omega), Option.bind_some]
    unfold m_X4_agingFor_28 g_lt
    dsimp only
    rw [setP_s] at hn
    by_cases hb : who v t = p
    · rw [if_pos (by rw [hb]), or1 (setP_256 _ (by omega)) (by omega), nI_1]
      rw [if_pos (by simp [hb])] at hn
      exact hn
    · rw [if_neg (a_ne p hb (by omega) hp), nI_1]
      rw [if_neg (by simp [hb])] at hn
      exact hn
theorem c_age {σ : g_St} {w : Tw} {v : Nw} {p N : Nat} (hw : TwOK w) (hv : NwOK w v) (h : CN w v σ) (hp : p < 2 ^ 31) (hN : 8 < N) : m_X4_agingFor N (nI p) (nI (tK w)) σ = some (nI (setP (fun t => who v t == p) (tK w)), σ) := by
  have hK : tK w ≤ 8 := hw.2.1
  unfold m_X4_agingFor
  exact c_age_loop hw hv h hp (tK w) 0 N (by omega) (by omega)
theorem r_own_loop {σ : g_St} {w : Tw} {v : Nw} {p N : Nat} (hw : TwOK w) (hv : NwOK w v) (hT : σ.1 79 1 = nI (tK w)) (h : RN w v (σ.1 81)) (hp : p < 2 ^ 31) : ∀ d t fu, t + d = tK w → d < fu → m_X11_own_4 N fu (nI p) (nI (setP (fun t => who v t == p) t)) (nI t) σ = some (nI (setP (fun t => who v t == p) (tK w)), σ) := by
  have hP : tP w ≤ 6 := hw.1
  have hK : tK w ≤ 8 := hw.2.1
  intro d
  induction d with
  | zero =>
    intro t fu ht hf
    obtain ⟨fu, rfl⟩ : ∃ f, fu = f + 1 := ⟨fu - 1, by omega⟩
    unfold m_X11_own_4
    rw [hT, if_pos (a_le t (by omega) (by omega)), show t = tK w by omega]
  | succ d ih =>
    intro t fu ht hf
    obtain ⟨fu, rfl⟩ : ∃ f, fu = f + 1 := ⟨fu - 1, by omega⟩
    have hn := ih (t + 1) fu (by omega) (by omega)
    have hlt := who_lt hv (show t < tK w by omega)
    unfold m_X11_own_4
    rw [hT, if_neg (a_nle (a := tK w) t (by omega) (by omega)), r_who hw hv h (by omega), Option.bind_some]
    unfold m_X11_own_31 g_lt
    dsimp only
    rw [setP_s] at hn
    by_cases hb : who v t = p
    · rw [if_pos (by rw [hb]), or1 (setP_256 _ (by omega)) (by omega), nI_1]
      rw [if_pos (by simp [hb])] at hn
      exact hn
    · rw [if_neg (a_ne p hb (by omega) hp), nI_or0 _ (setP_256 _ (by omega)), nI_1]
      rw [if_neg (by simp [hb])] at hn
      exact hn
theorem r_own {σ : g_St} {w : Tw} {v : Nw} {p N : Nat} (hw : TwOK w) (hv : NwOK w v) (hT : σ.1 79 1 = nI (tK w)) (h : RN w v (σ.1 81)) (hp : p < 2 ^ 31) (hN : 8 < N) : m_X11_own N (nI p) σ = some (nI (setP (fun t => who v t == p) (tK w)), σ) := by
  have hK : tK w ≤ 8 := hw.2.1
  unfold m_X11_own
  exact r_own_loop hw hv hT h hp (tK w) 0 N (by omega) (by omega)
theorem c_held_loop {σ : g_St} {w : Tw} {v : Nw} {p N : Nat} (hw : TwOK w) (hv : NwOK w v) (h : CN w v σ) (hp : p < 2 ^ 31) : ∀ d t fu, t + d = tK w → d < fu → m_X4_heldBy_5 N fu (nI p) (nI (tK w)) (nI (setP (fun t => nH v t == p) t)) (nI t) σ = some (nI (setP (fun t => nH v t == p) (tK w)), σ) := by
  have hP : tP w ≤ 6 := hw.1
  have hK : tK w ≤ 8 := hw.2.1
  intro d
  induction d with
  | zero =>
    intro t fu ht hf
    obtain ⟨fu, rfl⟩ : ∃ f, fu = f + 1 := ⟨fu - 1, by omega⟩
    unfold m_X4_heldBy_5
    rw [if_pos (a_le t (by omega) (by omega)), show t = tK w by omega]
  | succ d ih =>
    intro t fu ht hf
    obtain ⟨fu, rfl⟩ : ∃ f, fu = f + 1 := ⟨fu - 1, by omega⟩
    have hn := ih (t + 1) fu (by omega) (by omega)
    have hlt := (hv.2.2.2.2.2 t (by omega)).1
    unfold m_X4_heldBy_5
    rw [if_neg (a_nle (a := tK w) t (by omega) (by omega)), if_pos (a_in (show t < 8 by omega) (by omega)), nI_clamp (by omega), (h.2.2.2.2 t (by omega)).1]
    unfold m_X4_heldBy_29 g_lt
    dsimp only
    rw [setP_s] at hn
    by_cases hb : nH v t = p
    · rw [if_pos (by rw [hb]), or1 (setP_256 _ (by omega)) (by omega), nI_1]
      rw [if_pos (by simp [hb])] at hn
      exact hn
    · rw [if_neg (a_ne p hb (by omega) hp), nI_1]
      rw [if_neg (by simp [hb])] at hn
      exact hn
theorem c_held {σ : g_St} {w : Tw} {v : Nw} {p N : Nat} (hw : TwOK w) (hv : NwOK w v) (h : CN w v σ) (hp : p < 2 ^ 31) (hN : 8 < N) : m_X4_heldBy N (nI p) (nI (tK w)) σ = some (nI (setP (fun t => nH v t == p) (tK w)), σ) := by
  have hK : tK w ≤ 8 := hw.2.1
  unfold m_X4_heldBy
  exact c_held_loop hw hv h hp (tK w) 0 N (by omega) (by omega)
theorem e15 (t : Nat) : (15 : Int32) + ((3 : Int32) * nI t) = nI (15 + 3 * t) := by
  show nI 15 + nI 3 * nI t = _
  rw [pk_mul, nI_add]
theorem e3 (p : Nat) : (3 : Int32) + ((2 : Int32) * nI p) = nI (3 + 2 * p) := by
  show nI 3 + nI 2 * nI p = _
  rw [pk_mul, nI_add]
theorem r_held_loop {σ : g_St} {w : Tw} {v : Nw} {p N : Nat} (hw : TwOK w) (hv : NwOK w v) (hT : σ.1 79 1 = nI (tK w)) (h : RN w v (σ.1 81)) (hp : p < 2 ^ 31) : ∀ d t fu, t + d = tK w → d < fu → m_X11_held_4 N fu (nI p) (nI (setP (fun t => nH v t == p) t)) (nI t) σ = some (nI (setP (fun t => nH v t == p) (tK w)), σ) := by
  have hP : tP w ≤ 6 := hw.1
  have hK : tK w ≤ 8 := hw.2.1
  intro d
  induction d with
  | zero =>
    intro t fu ht hf
    obtain ⟨fu, rfl⟩ : ∃ f, fu = f + 1 := ⟨fu - 1, by omega⟩
    unfold m_X11_held_4
    rw [hT, if_pos (a_le t (by omega) (by omega)), show t = tK w by omega]
  | succ d ih =>
    intro t fu ht hf
    obtain ⟨fu, rfl⟩ : ∃ f, fu = f + 1 := ⟨fu - 1, by omega⟩
    have hn := ih (t + 1) fu (by omega) (by omega)
    have hlt := (hv.2.2.2.2.2 t (by omega)).1
    unfold m_X11_held_4
    rw [hT, if_neg (a_nle (a := tK w) t (by omega) (by omega)), e15, if_pos (a_in (by omega) (by omega)), nI_clamp (by omega), (h.2.2.2.2 t (by omega)).1]
    unfold m_X11_held_37 g_lt
    dsimp only
    rw [setP_s] at hn
    by_cases hb : nH v t = p
    · rw [if_pos (by rw [hb]), or1 (setP_256 _ (by omega)) (by omega), nI_1]
      rw [if_pos (by simp [hb])] at hn
      exact hn
    · rw [if_neg (a_ne p hb (by omega) hp), nI_or0 _ (setP_256 _ (by omega)), nI_1]
      rw [if_neg (by simp [hb])] at hn
      exact hn
theorem r_held {σ : g_St} {w : Tw} {v : Nw} {p N : Nat} (hw : TwOK w) (hv : NwOK w v) (hT : σ.1 79 1 = nI (tK w)) (h : RN w v (σ.1 81)) (hp : p < 2 ^ 31) (hN : 8 < N) : m_X11_held N (nI p) σ = some (nI (setP (fun t => nH v t == p) (tK w)), σ) := by
  have hK : tK w ≤ 8 := hw.2.1
  unfold m_X11_held
  exact r_held_loop hw hv hT h hp (tK w) 0 N (by omega) (by omega)
/-! the spread of ages -/
def mnA (a : Nat → Nat) : Nat → Nat
  | 0 => 9999
  | p + 1 => if a p < mnA a p then a p else mnA a p
def mxA (a : Nat → Nat) : Nat → Nat
  | 0 => 0
  | p + 1 => if mxA a p < a p then a p else mxA a p
def sprd (a : Nat → Nat) (P : Nat) : Nat := if P = 0 then 0 else mxA a P - mnA a P
theorem mnA_le (a : Nat → Nat) : ∀ p, mnA a p ≤ 9999
  | 0 => Nat.le_refl _
  | p + 1 => by have := mnA_le a p; unfold mnA; split <;> omega
theorem mxA_le {a : Nat → Nat} : ∀ p, (∀ q, q < p → a q ≤ 999) → mxA a p ≤ 999
  | 0, _ => by simp [mxA]
  | p + 1, h => by have := mxA_le p (fun q hq => h q (by omega)); have := h p (by omega); unfold mxA; split <;> omega
theorem mn_mx (a : Nat → Nat) : ∀ p, 0 < p → mnA a p ≤ mxA a p ∨ 9999 ≤ a 0
  | 0, h => absurd h (by omega)
  | 1, _ => by
    rw [show mnA a 1 = if a 0 < 9999 then a 0 else 9999 from rfl, show mxA a 1 = if 0 < a 0 then a 0 else 0 from rfl]
    by_cases h1 : a 0 < 9999
    · rw [if_pos h1]; by_cases h2 : 0 < a 0
      · rw [if_pos h2]; omega
      · rw [if_neg h2]; omega
    · exact Or.inr (by omega)
  | p + 2, _ => by
    rcases mn_mx a (p + 1) (by omega) with h | h
    · refine Or.inl ?_
      rw [show mnA a (p + 2) = if a (p + 1) < mnA a (p + 1) then a (p + 1) else mnA a (p + 1) from rfl, show mxA a (p + 2) = if mxA a (p + 1) < a (p + 1) then a (p + 1) else mxA a (p + 1) from rfl]
      split <;> split <;> omega
    · exact Or.inr h
