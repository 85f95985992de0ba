/-! the class's couples -/
def fbC (A : Nat → Nat) (g a p q : Nat) : Bool := decide (p ≠ q ∧ A p - A q + (A q - A p) ≤ a ∧ g ≤ A p ∧ g ≤ A q)
theorem fbC_sym {A : Nat → Nat} {g a : Nat} (p q : Nat) : fbC A g a p q = fbC A g a q p := by
  unfold fbC
  refine decide_eq_decide.mpr ⟨fun h => ⟨fun z => h.1 z.symm, by omega, h.2.2.2, h.2.2.1⟩, fun h => ⟨fun z => h.1 z.symm, by omega, h.2.2.2, h.2.2.1⟩⟩
theorem sub_t {a b : Nat} (ha : a ≤ 999) (hb : b ≤ 999) : (nI a - nI b).toInt = (a : Int) - b := by
  rw [Int32.toInt_sub, nI_toInt (by omega), nI_toInt (by omega)]
  rw [Int.bmod_eq_of_le (by omega) (by omega)]
theorem abs32 {a b : Nat} (ha : a ≤ 999) (hb : b ≤ 999) : (if 0 ≤ nI a - nI b then nI a - nI b else 0 - (nI a - nI b)) = nI (a - b + (b - a)) := by
  have h1 := sub_t ha hb
  have h0 : (0 : Int32).toInt = 0 := by decide
  by_cases q : b ≤ a
  · rw [if_pos (by rw [Int32.le_iff_toInt_le, h1, h0]; omega), pk_sub q, show b - a = 0 by omega, Nat.add_zero]
  · rw [if_neg (by rw [Int32.le_iff_toInt_le, h1, h0]; omega), show a - b + (b - a) = b - a by omega]
    apply Int32.toInt_inj.mp
    rw [Int32.toInt_sub, h1, h0, nI_toInt (by omega), Int.bmod_eq_of_le (by omega) (by omega)]
    omega
theorem bt_and (a b q : Nat) : bt (a &&& b) q = (bt a q && bt b q) := Nat.testBit_and a b q
theorem setP_no {P : Nat → Bool} : ∀ n, (∀ t, t < n → P t = false) → setP P n = 0
  | 0, _ => rfl
  | n + 1, h => by rw [setP_s, if_neg (by rw [h n (by omega)]; simp), setP_no n (fun t ht => h t (by omega))]
theorem c_fit {d : Dt} {N a p : Nat} {σ : g_St} (ok : OK d) (hT : CT (dT d) σ) (hC : CN (dT d) (dN d) σ) (hp : p < tP (dT d)) (ha : a ≤ 99) (hg : tG (dT d) 2 ≤ nA (dN d) p) : ∀ m t fu, t + m = tP (dT d) → m < fu → m_X9_fittingFor_28 N fu (nI p) (nI a) (nI (setP (fbC (nA (dN d)) (tG (dT d) 2) a p) t)) (nI (tG (dT d) 2)) (nI t) σ = some (nI (setP (fbC (nA (dN d)) (tG (dT d) 2) a p) (tP (dT d))), σ) := by
  have hP : tP (dT d) ≤ 6 := ok.1.1
  have hg2 := ok.1.2.2.2.2.2.1 2 (by omega)
  intro m
  induction m with
  | zero =>
    intro t fu ht hf
    obtain ⟨fu, rfl⟩ : ∃ f, fu = f + 1 := ⟨fu - 1, by omega⟩
    unfold m_X9_fittingFor_28
    rw [hT.1, if_pos (a_le t (by omega) (by omega)), show t = tP (dT d) by omega]
  | succ m ih =>
    intro t fu ht hf
    obtain ⟨fu, rfl⟩ : ∃ f, fu = f + 1 := ⟨fu - 1, by omega⟩
    have hn := ih (t + 1) fu (by omega) (by omega)
    have hA := (ok.2.1.2.2.2.2.1 p hp).1
    have hA2 := (ok.2.1.2.2.2.2.1 t (by omega)).1
    rw [setP_s] at hn
    unfold m_X9_fittingFor_28
    rw [hT.1, if_neg (a_nle (a := tP (dT d)) t (by omega) (by omega)), if_pos (a_in (by omega) (by omega)), if_pos (a_in (by omega) (by omega)), nI_clamp (by omega), nI_clamp (by omega), (hC.2.2.2.1 p hp).1, (hC.2.2.2.1 t (by omega)).1, abs32 hA hA2]
    unfold m_X9_fittingFor_63 m_X9_fittingFor_97 g_lt
    dsimp only
    rw [nI_clamp (by omega), (hC.2.2.2.1 t (by omega)).1, nI_1]
    by_cases c : fbC (nA (dN d)) (tG (dT d) 2) a p t = true
    · rw [if_pos c] at hn
      have c' := c
      unfold fbC at c'
      simp only [decide_eq_true_eq] at c'
      rw [if_neg (a_nlt _ c'.2.1 (by omega)), if_neg (a_ne p (fun z => c'.1 z.symm) (by omega) (by omega)), if_neg n10, if_pos (a_in (by omega) (by omega)), if_neg (a_nlt _ c'.2.2.2 (by omega)), or1 (setP_256 _ (by omega)) (by omega)]
      exact hn
    · rw [if_neg c] at hn
      have c' := c
      unfold fbC at c'
      simp only [decide_eq_true_eq] at c'
      by_cases q1 : t = p
      · subst q1
        rw [if_pos rfl, if_pos rfl, ite_self]
        exact hn
      · rw [if_neg (a_ne p q1 (by omega) (by omega)), if_neg (a_ne p q1 (by omega) (by omega))]
        by_cases q2 : nA (dN d) p - nA (dN d) t + (nA (dN d) t - nA (dN d) p) ≤ a
        · rw [if_neg (a_nlt _ q2 (by omega)), if_neg n10, if_pos (a_in (by omega) (by omega)), if_pos (a_lt _ (by
            apply Classical.byContradiction
            intro z
            exact c' ⟨fun z => q1 z.symm, q2, hg, by omega⟩) (by omega))]
          exact hn
        · rw [if_pos (a_lt _ (by omega) (by omega)), if_pos rfl]
          exact hn
abbrev fbD (d : Dt) (a : Nat) : Nat → Nat → Bool := fbC (nA (dN d)) (tG (dT d) 2) a
theorem c_fitting {d : Dt} {N a p : Nat} {σ : g_St} (ok : OK d) (hT : CT (dT d) σ) (hC : CN (dT d) (dN d) σ) (hp : p < tP (dT d)) (ha : a ≤ 99) (hN : 8 < N) : m_X9_fittingFor N (nI p) (nI a) σ = some (nI (setP (fbD d a p) (tP (dT d))), σ) := by
  have hP : tP (dT d) ≤ 6 := ok.1.1
  have hg2 := ok.1.2.2.2.2.2.1 2 (by omega)
  have hA := (ok.2.1.2.2.2.2.1 p hp).1
  unfold m_X9_fittingFor g_lt
  dsimp only
  rw [hT.2.2.2.2.1 2 (by omega), if_pos (a_in (by omega) (by omega)), nI_clamp (by omega), (hC.2.2.2.1 p hp).1]
  by_cases hg : tG (dT d) 2 ≤ nA (dN d) p
  · rw [if_pos (a_le _ hg (by omega))]
    exact c_fit ok hT hC hp ha hg (tP (dT d)) 0 N (by omega) (by omega)
  · rw [if_neg (a_nle _ (by omega) (by omega)), setP_no _ (fun t ht => by unfold fbD fbC; simp; omega)]
    rfl
theorem c_first {N S n : Nat} {σ : g_St} (hn : n ≤ 6) (hS : S < 256) : ∀ m t fu, t + m = n → m < fu → (∀ i, i < t → bt S i = false) → (∃ p, p < n ∧ bt S p = true ∧ (∀ i, i < p → bt S i = false) ∧ m_X9_firstOf_2 N fu (nI S) (nI n) (nI t) σ = some (nI p, σ)) ∨ ((∀ i, i < n → bt S i = false) ∧ m_X9_firstOf_2 N fu (nI S) (nI n) (nI t) σ = some (-1, σ)) := by
  intro m
  induction m with
  | zero =>
    intro t fu ht hf h
    obtain ⟨fu, rfl⟩ : ∃ f, fu = f + 1 := ⟨fu - 1, by omega⟩
    refine Or.inr ⟨fun i hi => h i (by omega), ?_⟩
    unfold m_X9_firstOf_2
    rw [if_pos (a_le t (by omega) (by omega))]
  | succ m ih =>
    intro t fu ht hf h
    obtain ⟨fu, rfl⟩ : ∃ f, fu = f + 1 := ⟨fu - 1, by omega⟩
    unfold m_X9_firstOf_2 g_lt
    rw [if_neg (a_nle (a := n) t (by omega) (by omega)), c_holds hS (by omega), Option.bind_some]
    dsimp only
    by_cases b : bt S t = true
    · refine Or.inl ⟨t, by omega, b, h, ?_⟩
      rw [if_pos b, if_neg n10]
    · rw [if_neg b, if_pos rfl, nI_1]
      exact ih (t + 1) fu (by omega) (by omega) (fun i hi => by
        by_cases e : i = t
        · rw [e]; simpa using b
        · exact h i (by omega))
theorem mk_le {n : Nat} {fb : Nat → Nat → Bool} : ∀ k S, mk n fb k S ≤ k
  | 0, S => Nat.le_refl _
  | k + 1, S => by
    rw [mk_s]
    split
    · rcases mxF_at (T := mk n fb k) (F := fb (n - (k + 1))) (o := cl S (n - (k + 1))) k (n - (k + 1) + 1) (mk n fb k (cl S (n - (k + 1)))) with q | ⟨x, q1, q2, q3, q4⟩
      · rw [q]; have := mk_le (n := n) (fb := fb) k (cl S (n - (k + 1))); omega
      · rw [q4]; have := mk_le (n := n) (fb := fb) k (cl (cl S (n - (k + 1))) x); omega
    · have := mk_le (n := n) (fb := fb) k S; omega
theorem cl_64 : ∀ S, S < 64 → ∀ t, t < 8 → cl S t < 64 ∧ cl S t ≤ S ∧ (bt S t = true → cl S t < S) := by decide +kernel
theorem c_among {N n p o S0 : Nat} {fb : Nat → Nat → Bool} {σ : g_St} (hn : n ≤ 6) (hp : p < n) (ho : o < 64) (hoS : o < S0) (h64 : σ.1 64 p = nI (setP (fb p) n)) (h65 : ∀ S, S < S0 → σ.1 65 S = nI (mk n fb n S)) : ∀ m q b fu, q + m = n → m < fu → b ≤ 7 → m_X9_mostAmong_36 N fu (nI n) (nI p) (nI o) (nI b) (nI q) σ = some (nI (mxF (mk n fb n) (fb p) o m q b), σ) := by
  intro m
  induction m with
  | zero =>
    intro q b fu hq hf hb
    obtain ⟨fu, rfl⟩ : ∃ f, fu = f + 1 := ⟨fu - 1, by omega⟩
    unfold m_X9_mostAmong_36
    rw [if_pos (a_le q (by omega) (by omega))]
    rfl
  | succ m ih =>
    intro q b fu hq hf hb
    obtain ⟨fu, rfl⟩ : ∃ f, fu = f + 1 := ⟨fu - 1, by omega⟩
    have hF := setP_256 (fb p) (show n ≤ 8 by omega)
    have hcl := cl_64 o ho q (by omega)
    have hle := mk_le (n := n) (fb := fb) n (cl o q)
    unfold m_X9_mostAmong_36 m_X9_mostAmong_82 g_lt
    dsimp only
    rw [if_neg (a_nle (a := n) q (by omega) (by omega)), if_pos (a_in (by omega) (by omega)), nI_clamp (by omega), h64, nI_and, c_holds (and_lt (by omega)) (by omega), Option.bind_some, bt_and, bt_setP, show decide (q < n) = true by simp; omega, Bool.true_and]
    dsimp only
    rw [nI_1, mxF_s]
    by_cases c : (bt o q && fb p q) = true
    · rw [if_pos c, if_neg n10, u_clr o (by omega) q (by omega), if_pos (a_in hcl.1 (by omega)), nI_clamp (by omega), h65 _ (by omega), show (1 : Int32) + nI (mk n fb n (cl o q)) = nI (1 + mk n fb n (cl o q)) from nI_add 1 _, if_pos c]
      by_cases c2 : b < 1 + mk n fb n (cl o q)
      · rw [if_pos c2, if_pos (a_lt _ c2 (by omega))]
        exact ih (q + 1) _ fu (by omega) (by omega) (by omega)
      · rw [if_neg c2, if_neg (a_nlt _ (by omega) (by omega))]
        exact ih (q + 1) _ fu (by omega) (by omega) (by omega)
    · rw [if_neg c, if_pos rfl, if_neg c]
      exact ih (q + 1) _ fu (by omega) (by omega) hb
theorem c_most {N n S : Nat} {fb : Nat → Nat → Bool} {σ : g_St} (hn : n ≤ 6) (hS : S < 2 ^ n) (hN : 8 < N) (h64 : ∀ p, p < n → σ.1 64 p = nI (setP (fb p) n)) (h65 : ∀ S', S' < S → σ.1 65 S' = nI (mk n fb n S')) : m_X9_mostAmong N (nI S) (nI n) σ = some (nI (mk n fb n S), σ) := by
  have hp6 : 2 ^ n ≤ 64 := Nat.pow_le_pow_right (n := 2) (by omega) hn
  unfold m_X9_mostAmong m_X9_firstOf g_lt
  rcases c_first (N := N) (σ := σ) hn (show S < 256 by omega) n 0 N (by omega) (by omega) (fun i hi => by omega) with ⟨p, h1, h2, h3, h4⟩ | ⟨h1, h4⟩
  · have hcl := cl_64 S (by omega) p (by omega)
    have hlt := hcl.2.2 h2
    have bo : ∀ i, i < 8 → bt (cl S p) i = (bt S i && !(i == p)) := fun i hi => bt_cl S (by omega) p (by omega) i hi
    have sk : ∀ x, (∀ i, i < p + 1 → bt x i = false) → mk n fb n x = mk n fb (n - (p + 1)) x := fun x hx => mk_skip (p + 1) (by omega) hx
    have e1 : mk n fb n (cl S p) = mk n fb (n - (p + 1)) (cl S p) := sk _ (fun i hi => by
      rw [bo i (by omega)]
      by_cases e : i = p
      · simp [e]
      · rw [h3 i (by omega)]; rfl)
    have e2 : mk n fb n S = mxF (mk n fb n) (fb p) (cl S p) (n - (p + 1)) (p + 1) (mk n fb n (cl S p)) := by
      rw [mk_skip p (by omega) h3, show n - p = n - (p + 1) + 1 by omega, mk_s, show n - (n - (p + 1) + 1) = p by omega, if_pos h2, ← e1]
      refine (mxF_c _ _ _ (fun x q1 q2 q3 => sk _ (fun i hi => ?_))).symm
      rw [bt_cl (cl S p) (by omega) x (by omega) i (by omega), bo i (by omega)]
      by_cases e : i = p
      · simp [e]
      · rw [h3 i (by omega)]; rfl
    have hl := mk_le (n := n) (fb := fb) n (cl S p)
    rw [show (0 : Int32) = nI 0 from rfl, h4, Option.bind_some]
    dsimp only
    rw [if_neg (by rw [u_m1 (by omega)]; exact id), u_clr S (by omega) p (by omega), if_pos (a_in hcl.1 (by omega)), nI_clamp (by omega), h65 _ hlt, nI_1, e2]
    exact c_among hn h1 hcl.1 hlt (h64 p h1) h65 (n - (p + 1)) (p + 1) _ N (by omega) (by omega) (by omega)
  · have e : mk n fb n S = 0 := by
      rw [mk_skip n (Nat.le_refl _) h1, Nat.sub_self]; rfl
    rw [show (0 : Int32) = nI 0 from rfl, h4, Option.bind_some, if_pos rfl, e]
def dl (x : Nat) : Int32 := if x = 6 then -1 else nI x
theorem c_fp {N n p o due : Nat} {fb : Nat → Nat → Bool} {σ : g_St} (hn : n ≤ 6) (hp : p < n) (ho : o < 2 ^ n) (hd : due ≤ 7) (h64 : σ.1 64 p = nI (setP (fb p) n)) (h65 : ∀ S, S < 2 ^ n → σ.1 65 S = nI (mk n fb n S)) : ∀ m q fu, q + m = n → m < fu → m_X9_firstPartner_5 N fu (nI p) (nI o) (nI due) (nI n) (nI q) σ = some (plv (fpF (mk n fb n) (fb p) o due m q), σ) := by
  have hp6 : 2 ^ n ≤ 64 := Nat.pow_le_pow_right (n := 2) (by omega) hn
  intro m
  induction m with
  | zero =>
    intro q fu hq hf
    obtain ⟨fu, rfl⟩ : ∃ f, fu = f + 1 := ⟨fu - 1, by omega⟩
    unfold m_X9_firstPartner_5
    rw [if_pos (a_le q (by omega) (by omega))]
    rfl
  | succ m ih =>
    intro q fu hq hf
    obtain ⟨fu, rfl⟩ : ∃ f, fu = f + 1 := ⟨fu - 1, by omega⟩
    have hF := setP_256 (fb p) (show n ≤ 8 by omega)
    have hcl := cl_64 o (by omega) q (by omega)
    have hle := mk_le (n := n) (fb := fb) n (cl o q)
    have hn' := ih (q + 1) fu (by omega) (by omega)
    unfold m_X9_firstPartner_5 m_X9_firstPartner_50 g_lt
    dsimp only
    rw [if_neg (a_nle (a := n) q (by omega) (by omega)), if_pos (a_in (by omega) (by omega)), nI_clamp (by omega), h64, nI_and, c_holds (and_lt (by omega)) (by omega), Option.bind_some, bt_and, bt_setP, show decide (q < n) = true by simp; omega, Bool.true_and]
    dsimp only
    rw [nI_1, fpF_s]
    by_cases c : (bt o q && fb p q) = true
    · rw [if_pos c, if_neg n10, u_clr o (by omega) q (by omega), if_pos (a_in hcl.1 (by omega)), nI_clamp (by omega), h65 _ (by omega), show (1 : Int32) + nI (mk n fb n (cl o q)) = nI (1 + mk n fb n (cl o q)) from nI_add 1 _]
      by_cases c2 : 1 + mk n fb n (cl o q) = due
      · rw [if_pos (congrArg nI c2), if_pos ⟨c, c2⟩]
        rfl
      · rw [if_neg (a_ne due c2 (by omega) (by omega)), if_neg (fun z => c2 z.2)]
        exact hn'
    · rw [if_neg c, if_pos rfl, if_neg (fun z => c z.1)]
      exact hn'
theorem c_choose {N n : Nat} {fb : Nat → Nat → Bool} (hn : n ≤ 6) (hN : 8 < N) : ∀ k S g fu σ, k ≤ n → k < fu → S < 2 ^ n → (∀ i, i < n - k → bt S i = false) → (∀ p, p < n → σ.1 64 p = nI (setP (fb p) n)) → (∀ S, S < 2 ^ n → σ.1 65 S = nI (mk n fb n S)) → (∀ j, j < n → σ.1 66 j = dl (g j)) → ∃ τ, m_X9_choose_13 N fu (nI n) (nI S) (nI (n - k)) σ = some τ ∧ (∀ j, j < n → τ.1 66 j = dl (grF n fb k S g j)) ∧ (∀ c, c ≠ 66 → τ.1 c = σ.1 c) ∧ τ.2 = σ.2 := by
  have hp6 : 2 ^ n ≤ 64 := Nat.pow_le_pow_right (n := 2) (by omega) hn
  intro k
  induction k with
  | zero =>
    intro S g fu σ hk hf hS hb h64 h65 h66
    obtain ⟨fu, rfl⟩ : ∃ f, fu = f + 1 := ⟨fu - 1, by omega⟩
    refine ⟨σ, ?_, h66, fun c _ => rfl, rfl⟩
    unfold m_X9_choose_13
    rw [if_pos (a_le _ (by omega) (by omega))]
  | succ k ih =>
    intro S g fu σ hk hf hS hb h64 h65 h66
    obtain ⟨fu, rfl⟩ : ∃ f, fu = f + 1 := ⟨fu - 1, by omega⟩
    obtain ⟨p, hp⟩ : ∃ p, n - (k + 1) = p := ⟨_, rfl⟩
    have hpk : n - k = p + 1 := by omega
    rw [hpk] at ih
    have bo : ∀ i, i < 8 → bt (cl S p) i = (bt S i && !(i == p)) := fun i hi => bt_cl S (by omega) p (by omega) i hi
    have hcl := cl_64 S (by omega) p (by omega)
    have hmS := mk_le (n := n) (fb := fb) n S
    have sk : ∀ x, (∀ i, i < p + 1 → bt x i = false) → mk n fb n x = mk n fb k x := fun x hx => by
      have := mk_skip (n := n) (fb := fb) (S := x) (p + 1) (by omega) hx
      rw [this, show n - (p + 1) = k by omega]
    have hlow : ∀ i, i < p + 1 → bt (cl S p) i = false := fun i hi => by
      rw [bo i (by omega)]
      by_cases e : i = p
      · simp [e]
      · rw [hb i (by omega)]; rfl
    have eS : mk n fb n S = mk n fb (k + 1) S := by
      rw [mk_skip p (by omega) (by rw [hp] at hb; exact hb), show n - p = k + 1 by omega]
    have hfp := c_fp (N := N) (p := p) (o := cl S p) (due := mk n fb n S) (fb := fb) (σ := σ) hn (by omega) (by omega) (by omega) (h64 p (by omega)) h65 k (p + 1) N (by omega) (by omega)
    rw [fpF_c (U := mk n fb k) k (p + 1) (fun x q1 q2 q3 => sk _ (fun i hi => by
      rw [bt_cl (cl S p) (by omega) x (by omega) i (by omega), hlow i hi]; rfl)), eS] at hfp
    have hgr : grF n fb (k + 1) S g = if bt S p = true then (match fpF (mk n fb k) (fb p) (cl S p) (mk n fb (k + 1) S) k (p + 1) with
       | none => grF n fb k (cl S p) g
       | some q => grF n fb k (cl (cl S p) q) (up2 g p q)) else grF n fb k S g := by
      conv => lhs; unfold grF
      rw [hp]
      rfl
    rw [hgr, hp]
    have hst : m_X9_choose_13 N (fu + 1) (nI n) (nI S) (nI p) σ = if bt S p = true then (if plv (fpF (mk n fb k) (fb p) (cl S p) (mk n fb (k + 1) S) k (p + 1)) = -1 then m_X9_choose_13 N fu (nI n) (nI (cl S p)) (nI (p + 1)) σ else (if g_in (plv (fpF (mk n fb k) (fb p) (cl S p) (mk n fb (k + 1) S) k (p + 1))) 6 then m_X9_choose_13 N fu (nI n) (nI (cl S p) &&& (((1 : Int32) <<< (plv (fpF (mk n fb k) (fb p) (cl S p) (mk n fb (k + 1) S) k (p + 1)) &&& 31)) ^^^ (-1 : Int32))) (nI (p + 1)) (g_sI (g_sI σ 66 p (plv (fpF (mk n fb k) (fb p) (cl S p) (mk n fb (k + 1) S) k (p + 1)))) 66 (plv (fpF (mk n fb k) (fb p) (cl S p) (mk n fb (k + 1) S) k (p + 1))).toNatClampNeg (nI p)) else none)) else m_X9_choose_13 N fu (nI n) (nI S) (nI (p + 1)) σ := by
      conv => lhs; unfold m_X9_choose_13 m_X9_choose_93 m_X9_choose_96 m_X9_firstPartner g_lt
      dsimp only
      rw [if_neg (a_nle (a := n) p (by omega) (by omega)), c_holds (by omega) (by omega), Option.bind_some, nI_1]
      dsimp only
      by_cases b : bt S p = true
      · rw [if_pos b, if_neg n10, if_pos b, u_clr S (by omega) p (by omega), if_pos (a_in (by omega) (by omega)), nI_clamp (by omega), h65 S hS, eS, hfp, Option.bind_some]
        dsimp only
        rw [if_pos (a_in (show p < 6 by omega) (by omega)), nI_clamp (by omega)]
      · rw [if_neg b, if_pos rfl, if_neg b]
    rw [hst]
    by_cases b : bt S p = true
    · rw [if_pos b, if_pos b]
      cases hR : fpF (mk n fb k) (fb p) (cl S p) (mk n fb (k + 1) S) k (p + 1) with
      | none =>
        rw [if_pos (show plv none = -1 from rfl)]
        exact ih (cl S p) g fu σ (by omega) (by omega) (by omega) hlow h64 h65 h66
      | some q =>
        obtain ⟨r1, r2, r3, r4, r5⟩ := fpF_some _ _ hR
        have hcl2 := cl_64 (cl S p) (by omega) q (by omega)
        rw [if_neg (show ¬ plv (some q) = -1 by show ¬ nI q = -1; rw [u_m1 (by omega)]; exact id), show plv (some q) = nI q from rfl, if_pos (a_in (by omega) (by omega)), u_clr (cl S p) (by omega) q (by omega), nI_clamp (by omega)]
        obtain ⟨τ, t1, t2, t3, t4⟩ := ih (cl (cl S p) q) (up2 g p q) fu (g_sI (g_sI σ 66 p (nI q)) 66 q (nI p)) (by omega) (by omega) (by omega) (fun i hi => by
          rw [bt_cl (cl S p) (by omega) q (by omega) i (by omega), hlow i hi]; rfl) (fun p hp => by simp (disch := omega) only [sI_o, sI_k, sI_n, sA_o, sA_s, sI_2, sA_2, sL_1, sL_o]; exact h64 p hp) (fun S hS => by simp (disch := omega) only [sI_o, sI_k, sI_n, sA_o, sA_s, sI_2, sA_2, sL_1, sL_o]; exact h65 S hS) (fun j hj => by
          unfold up2 dl
          by_cases e1 : j = q
          · rw [e1, sI_k, if_neg (show ¬ q = p by omega), if_pos rfl, if_neg (show ¬ p = 6 by omega)]
          · rw [sI_n e1, if_neg e1]
            by_cases e2 : j = p
            · rw [e2, sI_k, if_pos rfl, if_neg (show ¬ q = 6 by omega)]
            · rw [sI_n e2, if_neg e2]; exact h66 j hj)
        refine ⟨τ, t1, t2, fun c hc => by rw [t3 c hc]; simp (disch := omega) only [sI_o, sI_k, sI_n, sA_o, sA_s, sI_2, sA_2, sL_1, sL_o], by rw [t4]; rfl⟩
    · rw [if_neg b, if_neg b]
      exact ih S g fu σ (by omega) (by omega) hS (fun i hi => by
        by_cases e : i = p
        · rw [e]; simpa using b
        · exact hb i (by omega)) h64 h65 h66
theorem c_f66 {N : Nat} : ∀ m x fu σ, x + m = 6 → m < fu → (∀ y, y < x → σ.1 66 y = -1) → ∃ τ, m_J7_fill_66_5 N fu (-1) (nI x) 6 σ = some τ ∧ (∀ y, y < 6 → τ.1 66 y = -1) ∧ (∀ c, c ≠ 66 → τ.1 c = σ.1 c) ∧ τ.2 = σ.2 := by
  intro m
  induction m with
  | zero =>
    intro x fu σ hx hf h
    obtain ⟨fu, rfl⟩ : ∃ f, fu = f + 1 := ⟨fu - 1, by omega⟩
    refine ⟨σ, ?_, fun y hy => h y (by omega), fun c _ => rfl, rfl⟩
    unfold m_J7_fill_66_5
    rw [if_pos (show (6 : Int32) ≤ nI x from a_le (a := 6) x (by omega) (by omega))]
  | succ m ih =>
    intro x fu σ hx hf h
    obtain ⟨fu, rfl⟩ : ∃ f, fu = f + 1 := ⟨fu - 1, by omega⟩
    obtain ⟨τ, t1, t2, t3, t4⟩ := ih (x + 1) fu (g_sI σ 66 x (-1)) (by omega) (by omega) (fun y hy => by
      by_cases e : y = x
      · subst e; rw [sI_k]
      · rw [sI_n e]; exact h y (by omega))
    refine ⟨τ, ?_, t2, fun c hc => by rw [t3 c hc]; simp (disch := omega) only [sI_o, sI_k, sI_n, sA_o, sA_s, sI_2, sA_2, sL_1, sL_o], by rw [t4]; rfl⟩
    rw [← t1]
    conv => lhs; unfold m_J7_fill_66_5 g_lt
    rw [if_neg (show ¬ (6 : Int32) ≤ nI x from a_nle (a := 6) x (by omega) (by omega)), if_pos (a_in (by omega) (by omega)), nI_clamp (by omega), nI_1]
theorem c_m46 {d : Dt} {N a : Nat} (ok : OK d) (hN : 80 < N) : ∀ m S fu σ, S + m = 2 ^ tP (dT d) → m < fu → CT (dT d) σ → (∀ p, p < tP (dT d) → σ.1 64 p = nI (setP (fbD d a p) (tP (dT d)))) → (∀ S', S' < S → σ.1 65 S' = nI (mk (tP (dT d)) (fbD d a) (tP (dT d)) S')) → ∃ τ, m_X9_match_46 N fu (nI (2 ^ tP (dT d) - 1)) (nI S) σ = some τ ∧ τ.1 63 3 = nI (mC (tP (dT d)) (fbD d a)) ∧ (∀ j, j < tP (dT d) → τ.1 66 j = dl (gC (tP (dT d)) (fbD d a) j)) ∧ (∀ c, c < 63 ∨ 66 < c → τ.1 c = σ.1 c) ∧ τ.2 = σ.2 := by
  have hP : tP (dT d) ≤ 6 := ok.1.1
  have hp6 : 2 ^ tP (dT d) ≤ 64 := Nat.pow_le_pow_right (n := 2) (by omega) hP
  have h1 := two_pos (tP (dT d))
  intro m
  induction m with
  | zero =>
    intro S fu σ hS hf hT h64 h65
    obtain ⟨fu, rfl⟩ : ∃ f, fu = f + 1 := ⟨fu - 1, by omega⟩
    obtain ⟨x, x1, x2, x3, x4⟩ := c_f66 (N := N) 6 0 N (g_sI σ 63 3 (nI (mC (tP (dT d)) (fbD d a)))) (by omega) (by omega) (fun y hy => by omega)
    obtain ⟨τ, t1, t2, t3, t4⟩ := c_choose (N := N) (fb := fbD d a) hP (by omega) (tP (dT d)) (2 ^ tP (dT d) - 1) (fun _ => 6) N x (Nat.le_refl _) (by omega) (by omega) (fun i hi => by omega) (fun p hp => by rw [x3 64 (by omega)]; simp (disch := omega) only [sI_o, sI_k, sI_n, sA_o, sA_s, sI_2, sA_2, sL_1, sL_o]; exact h64 p hp) (fun S' hS' => by rw [x3 65 (by omega)]; simp (disch := omega) only [sI_o, sI_k, sI_n, sA_o, sA_s, sI_2, sA_2, sL_1, sL_o]; exact h65 S' (by omega)) (fun j hj => by rw [x2 j (by omega)]; rfl)
    refine ⟨τ, ?_, ?_, t2, fun c hc => by rw [t3 c (by omega), x3 c (by omega)]; simp (disch := omega) only [sI_o, sI_k, sI_n, sA_o, sA_s, sI_2, sA_2, sL_1, sL_o], by rw [t4, x4]; rfl⟩
    · unfold m_X9_match_46 m_X9_choose m_J7_fill_66 g_lt
      rw [if_pos (a_lt _ (by omega) (by omega)), if_pos (a_in (by omega) (by omega)), nI_clamp (by omega), h65 _ (by omega)]
      dsimp only
      rw [show (0 : Int32) = nI 0 from rfl, x1, Option.bind_some]
      rw [sI_o (by omega), hT.1, show nI 0 = nI (tP (dT d) - tP (dT d)) by rw [Nat.sub_self], t1, Option.bind_some]
    · rw [t3 63 (by omega), x3 63 (by omega), sI_k]
  | succ m ih =>
    intro S fu σ hS hf hT h64 h65
    obtain ⟨fu, rfl⟩ : ∃ f, fu = f + 1 := ⟨fu - 1, by omega⟩
    obtain ⟨τ, t1, t2, t3, t4, t5⟩ := ih (S + 1) fu (g_sI σ 65 S (nI (mk (tP (dT d)) (fbD d a) (tP (dT d)) S))) (by omega) (by omega) (CT_k hT (fun c _ _ => by simp (disch := omega) only [sI_o, sI_k, sI_n, sA_o, sA_s, sI_2, sA_2, sL_1, sL_o])) (fun p hp => by simp (disch := omega) only [sI_o, sI_k, sI_n, sA_o, sA_s, sI_2, sA_2, sL_1, sL_o]; exact h64 p hp) (fun S' hS' => by
      by_cases e : S' = S
      · rw [e, sI_k]
      · rw [sI_n e]; exact h65 S' (by omega))
    refine ⟨τ, ?_, t2, t3, fun c hc => by rw [t4 c hc]; simp (disch := omega) only [sI_o, sI_k, sI_n, sA_o, sA_s, sI_2, sA_2, sL_1, sL_o], by rw [t5]; rfl⟩
    rw [← t1]
    conv => lhs; unfold m_X9_match_46 g_lt
    rw [if_neg (a_nlt _ (by omega) (by omega)), hT.1, c_most hP (by omega) (by omega) h64 h65, Option.bind_some]
    dsimp only
    rw [if_pos (a_in (by omega) (by omega)), nI_clamp (by omega), nI_1]
theorem c_m3 {d : Dt} {N a : Nat} (ok : OK d) (ha : a ≤ 99) (hN : 80 < N) : ∀ m p fu σ, p + m = tP (dT d) → m < fu → CT (dT d) σ → CN (dT d) (dN d) σ → (∀ q, q < p → σ.1 64 q = nI (setP (fbD d a q) (tP (dT d)))) → ∃ τ, m_X9_match_3 N fu (nI a) (nI p) σ = some τ ∧ τ.1 63 3 = nI (mC (tP (dT d)) (fbD d a)) ∧ (∀ j, j < tP (dT d) → τ.1 66 j = dl (gC (tP (dT d)) (fbD d a) j)) ∧ (∀ c, c < 63 ∨ 66 < c → τ.1 c = σ.1 c) ∧ τ.2 = σ.2 := by
  have hP : tP (dT d) ≤ 6 := ok.1.1
  have hp6 : 2 ^ tP (dT d) ≤ 64 := Nat.pow_le_pow_right (n := 2) (by omega) hP
  intro m
  induction m with
  | zero =>
    intro p fu σ hp hf hT hC h64
    obtain ⟨fu, rfl⟩ : ∃ f, fu = f + 1 := ⟨fu - 1, by omega⟩
    obtain ⟨τ, t1, t2⟩ := c_m46 (a := a) ok hN (2 ^ tP (dT d)) 0 N σ (by omega) (by omega) hT (fun q hq => h64 q (by omega)) (fun S' hS' => by omega)
    refine ⟨τ, ?_, t2⟩
    unfold m_X9_match_3 g_lt
    rw [hT.1, if_pos (a_le p (by omega) (by omega)), u_all (tP (dT d)) (by omega)]
    exact t1
  | succ m ih =>
    intro p fu σ hp hf hT hC h64
    obtain ⟨fu, rfl⟩ : ∃ f, fu = f + 1 := ⟨fu - 1, by omega⟩
    obtain ⟨τ, t1, t2, t3, t4, t5⟩ := ih (p + 1) fu (g_sI σ 64 p (nI (setP (fbD d a p) (tP (dT d))))) (by omega) (by omega) (CT_k hT (fun c _ _ => by simp (disch := omega) only [sI_o, sI_k, sI_n, sA_o, sA_s, sI_2, sA_2, sL_1, sL_o])) (CN_k hC (fun c _ _ => by simp (disch := omega) only [sI_o, sI_k, sI_n, sA_o, sA_s, sI_2, sA_2, sL_1, sL_o])) (fun q hq => by
      by_cases e : q = p
      · rw [e, sI_k]
      · rw [sI_n e]; exact h64 q (by omega))
    refine ⟨τ, ?_, t2, t3, fun c hc => by rw [t4 c hc]; simp (disch := omega) only [sI_o, sI_k, sI_n, sA_o, sA_s, sI_2, sA_2, sL_1, sL_o], by rw [t5]; rfl⟩
    rw [← t1]
    conv => lhs; unfold m_X9_match_3 g_lt
    rw [hT.1, if_neg (a_nle (a := tP (dT d)) p (by omega) (by omega)), c_fitting ok hT hC (by omega) ha (by omega), Option.bind_some]
    dsimp only
    rw [if_pos (a_in (by omega) (by omega)), nI_clamp (by omega), nI_1]
