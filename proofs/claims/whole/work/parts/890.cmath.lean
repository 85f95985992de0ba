/-! couples: the most pairs among a set, and the first of the best rows -/
theorem bt_cl : ∀ S, S < 256 → ∀ p, p < 8 → ∀ i, i < 8 → bt (cl S p) i = (bt S i && !(i == p)) := by decide +kernel
theorem cl_lt {S p : Nat} (hS : S < 256) (hp : p < 8) : cl S p < 256 := Nat.lt_of_le_of_lt (u_cl_lt S hS p hp) hS
def mxF (T : Nat → Nat) (F : Nat → Bool) (o : Nat) : Nat → Nat → Nat → Nat
  | 0, _, b => b
  | m + 1, q, b => mxF T F o m (q + 1) (if (bt o q && F q) = true then (if b < 1 + T (cl o q) then 1 + T (cl o q) else b) else b)
theorem mxF_s (T : Nat → Nat) (F : Nat → Bool) (o m q b : Nat) : mxF T F o (m + 1) q b = mxF T F o m (q + 1) (if (bt o q && F q) = true then (if b < 1 + T (cl o q) then 1 + T (cl o q) else b) else b) := rfl
theorem mxF_ge {T : Nat → Nat} {F : Nat → Bool} {o : Nat} : ∀ m q b, b ≤ mxF T F o m q b
  | 0, _, b => Nat.le_refl _
  | m + 1, q, b => by
    rw [mxF_s]
    refine Nat.le_trans ?_ (mxF_ge m (q + 1) _)
    split
    · split <;> omega
    · exact Nat.le_refl _
theorem mxF_mem {T : Nat → Nat} {F : Nat → Bool} {o x : Nat} (hx : (bt o x && F x) = true) : ∀ m q b, q ≤ x → x < q + m → 1 + T (cl o x) ≤ mxF T F o m q b
  | 0, q, b, h1, h2 => by omega
  | m + 1, q, b, h1, h2 => by
    rw [mxF_s]
    by_cases e : q = x
    · subst e
      refine Nat.le_trans ?_ (mxF_ge m (q + 1) _)
      rw [if_pos hx]
      split <;> omega
    · exact mxF_mem hx m (q + 1) _ (by omega) (by omega)
theorem mxF_at {T : Nat → Nat} {F : Nat → Bool} {o : Nat} : ∀ m q b, mxF T F o m q b = b ∨ ∃ x, q ≤ x ∧ x < q + m ∧ (bt o x && F x) = true ∧ mxF T F o m q b = 1 + T (cl o x)
  | 0, q, b => Or.inl rfl
  | m + 1, q, b => by
    rw [mxF_s]
    rcases mxF_at (T := T) (F := F) (o := o) m (q + 1) (if (bt o q && F q) = true then (if b < 1 + T (cl o q) then 1 + T (cl o q) else b) else b) with h | ⟨x, h1, h2, h3, h4⟩
    · by_cases c : (bt o q && F q) = true
      · rw [if_pos c] at h ⊢
        by_cases c2 : b < 1 + T (cl o q)
        · rw [if_pos c2] at h ⊢
          exact Or.inr ⟨q, by omega, by omega, c, h⟩
        · rw [if_neg c2] at h ⊢
          exact Or.inl h
      · rw [if_neg c] at h ⊢
        exact Or.inl h
    · exact Or.inr ⟨x, by omega, by omega, h3, h4⟩
theorem mxF_c {T U : Nat → Nat} {F : Nat → Bool} {o : Nat} : ∀ m q b, (∀ x, q ≤ x → x < q + m → bt o x = true → T (cl o x) = U (cl o x)) → mxF T F o m q b = mxF U F o m q b
  | 0, _, _, _ => rfl
  | m + 1, q, b, h => by
    rw [mxF_s, mxF_s, mxF_c m (q + 1) _ (fun x h1 h2 => h x (by omega) (by omega))]
    refine congrArg _ ?_
    by_cases c : (bt o q && F q) = true
    · rw [if_pos c, if_pos c, h q (by omega) (by omega) (by simp at c; exact c.1)]
    · rw [if_neg c, if_neg c]
def fpF (T : Nat → Nat) (F : Nat → Bool) (o due : Nat) : Nat → Nat → Option Nat
  | 0, _ => none
  | m + 1, q => if (bt o q && F q) = true ∧ 1 + T (cl o q) = due then some q else fpF T F o due m (q + 1)
theorem fpF_s (T : Nat → Nat) (F : Nat → Bool) (o due m q : Nat) : fpF T F o due (m + 1) q = if (bt o q && F q) = true ∧ 1 + T (cl o q) = due then some q else fpF T F o due m (q + 1) := rfl
theorem fpF_some {T : Nat → Nat} {F : Nat → Bool} {o due x : Nat} : ∀ m q, fpF T F o due m q = some x → q ≤ x ∧ x < q + m ∧ (bt o x && F x) = true ∧ 1 + T (cl o x) = due ∧ ∀ y, q ≤ y → y < x → ¬ ((bt o y && F y) = true ∧ 1 + T (cl o y) = due)
  | 0, q, h => by cases h
  | m + 1, q, h => by
    rw [fpF_s] at h
    by_cases c : (bt o q && F q) = true ∧ 1 + T (cl o q) = due
    · rw [if_pos c] at h
      cases h
      exact ⟨Nat.le_refl _, by omega, c.1, c.2, fun y h1 h2 => by omega⟩
    · rw [if_neg c] at h
      obtain ⟨a1, a2, a3, a4, a5⟩ := fpF_some m (q + 1) h
      refine ⟨by omega, by omega, a3, a4, fun y h1 h2 => ?_⟩
      by_cases e : y = q
      · subst e; exact c
      · exact a5 y (by omega) h2
theorem fpF_none {T : Nat → Nat} {F : Nat → Bool} {o due : Nat} : ∀ m q, fpF T F o due m q = none → ∀ y, q ≤ y → y < q + m → ¬ ((bt o y && F y) = true ∧ 1 + T (cl o y) = due)
  | 0, q, _ => fun y h1 h2 => by omega
  | m + 1, q, h => by
    rw [fpF_s] at h
    by_cases c : (bt o q && F q) = true ∧ 1 + T (cl o q) = due
    · rw [if_pos c] at h; cases h
    · rw [if_neg c] at h
      intro y h1 h2
      by_cases e : y = q
      · subst e; exact c
      · exact fpF_none m (q + 1) h y (by omega) (by omega)
theorem fpF_c {T U : Nat → Nat} {F : Nat → Bool} {o due : Nat} : ∀ m q, (∀ x, q ≤ x → x < q + m → bt o x = true → T (cl o x) = U (cl o x)) → fpF T F o due m q = fpF U F o due m q
  | 0, _, _ => rfl
  | m + 1, q, h => by
    rw [fpF_s, fpF_s, fpF_c m (q + 1) (fun x h1 h2 => h x (by omega) (by omega))]
    by_cases c : bt o q = true
    · rw [h q (by omega) (by omega) c]
    · rw [if_neg (fun z => by simp at z; exact c z.1.1), if_neg (fun z => by simp at z; exact c z.1.1)]
/-- the most pairs among the people of S from n - k on -/
def mk (n : Nat) (fb : Nat → Nat → Bool) : Nat → Nat → Nat
  | 0, _ => 0
  | k + 1, S => if bt S (n - (k + 1)) = true then mxF (mk n fb k) (fb (n - (k + 1))) (cl S (n - (k + 1))) k (n - (k + 1) + 1) (mk n fb k (cl S (n - (k + 1)))) else mk n fb k S
theorem mk_s (n : Nat) (fb : Nat → Nat → Bool) (k S : Nat) : mk n fb (k + 1) S = if bt S (n - (k + 1)) = true then mxF (mk n fb k) (fb (n - (k + 1))) (cl S (n - (k + 1))) k (n - (k + 1) + 1) (mk n fb k (cl S (n - (k + 1)))) else mk n fb k S := rfl
theorem mk_skip {n : Nat} {fb : Nat → Nat → Bool} {S : Nat} : ∀ p, p ≤ n → (∀ i, i < p → bt S i = false) → mk n fb n S = mk n fb (n - p) S
  | 0, _, _ => rfl
  | p + 1, hp, h => by
    rw [mk_skip p (by omega) (fun i hi => h i (by omega)), show n - p = n - (p + 1) + 1 by omega, mk_s, if_neg]
    rw [show n - (n - (p + 1) + 1) = p by omega, h p (by omega)]
    simp
/-- a row of partners that hold of each other; 6 is nobody -/
def VM (n : Nat) (fb : Nat → Nat → Bool) (f : Nat → Nat) : Prop := ∀ p, p < n → f p = 6 ∨ (f p < n ∧ f p ≠ p ∧ fb p (f p) = true ∧ f (f p) = p)
def cs (n : Nat) (f : Nat → Nat) (S : Nat) : Nat := sg n (fun p => if bt S p = true ∧ f p ≠ 6 then 1 else 0)
theorem cs_cl {n : Nat} {f : Nat → Nat} {S p : Nat} (hn : n ≤ 6) (hS : S < 256) (hp : p < n) (hb : bt S p = true) : cs n f S = cs n f (cl S p) + (if f p ≠ 6 then 1 else 0) := by
  unfold cs
  refine sg_up (u0 := p) n hp (fun u hu hne => ?_) ?_
  · rw [bt_cl S hS p (by omega) u (by omega), show (u == p) = false by simp [hne]]
    simp
  · rw [bt_cl S hS p (by omega) p (by omega), hb]
    simp
theorem mk_up {n : Nat} {fb : Nat → Nat → Bool} {f : Nat → Nat} (hn : n ≤ 6) (hf : VM n fb f) : ∀ k S, k ≤ n → S < 256 → (∀ i, i < n → bt S i = true → n - k ≤ i) → (∀ i, i < n → bt S i = true → f i ≠ 6 → bt S (f i) = true) → cs n f S ≤ 2 * mk n fb k S
  | 0, S, hk, hS, hb, hc => by
    unfold cs
    rw [sg_0 n (fun u hu => if_neg (fun z => by have := hb u hu z.1; omega))]
    omega
  | k + 1, S, hk, hS, hb, hc => by
    obtain ⟨p, hp⟩ : ∃ p, p = n - (k + 1) := ⟨_, rfl⟩
    rw [mk_s, ← hp]
    by_cases b : bt S p = true
    · rw [if_pos b]
      have ho := cl_lt hS (show p < 8 by omega)
      have bo : ∀ i, i < 8 → bt (cl S p) i = (bt S i && !(i == p)) := fun i hi => bt_cl S hS p (by omega) i hi
      rw [cs_cl hn hS (by omega) b]
      by_cases h6 : f p = 6
      · rw [if_neg (by simp [h6])]
        have ih := mk_up hn hf k (cl S p) (by omega) ho (fun i hi hbi => by
          rw [bo i (by omega)] at hbi
          simp at hbi
          have := hb i hi hbi.1
          omega) (fun i hi hbi h => by
          rw [bo i (by omega)] at hbi
          simp at hbi
          rcases hf i hi with q | ⟨q1, q2, q3, q4⟩
          · exact absurd q h
          · rw [bo (f i) (by omega), hc i hi hbi.1 h]
            have : ¬ f i = p := fun z => by rw [z, h6] at q4; omega
            simp [this])
        have := mxF_ge (T := mk n fb k) (F := fb p) (o := cl S p) k (p + 1) (mk n fb k (cl S p))
        omega
      · rw [if_pos h6]
        rcases hf p (by omega) with q | ⟨q1, q2, q3, q4⟩
        · exact absurd q h6
        · have hbq : bt (cl S p) (f p) = true := by
            rw [bo (f p) (by omega), hc p (by omega) b h6]; simp [q2]
          have hge := hb (f p) q1 (hc p (by omega) b h6)
          have bo2 : ∀ i, i < 8 → bt (cl (cl S p) (f p)) i = (bt (cl S p) i && !(i == f p)) := fun i hi => bt_cl (cl S p) ho (f p) (by omega) i hi
          have hp6 : f (f p) ≠ 6 := by rw [q4]; omega
          rw [cs_cl hn ho q1 hbq, if_pos hp6]
          have ih := mk_up hn hf k (cl (cl S p) (f p)) (by omega) (cl_lt ho (by omega)) (fun i hi hbi => by
            rw [bo2 i (by omega), bo i (by omega)] at hbi
            simp at hbi
            have := hb i hi hbi.1.1
            omega) (fun i hi hbi h => by
            rw [bo2 i (by omega), bo i (by omega)] at hbi
            simp at hbi
            rcases hf i hi with z | ⟨z1, z2, z3, z4⟩
            · exact absurd z h
            · rw [bo2 (f i) (by omega), bo (f i) (by omega), hc i hi hbi.1.1 h]
              have e1 : ¬ f i = p := fun z => by rw [z] at z4; exact hbi.2 z4.symm
              have e2 : ¬ f i = f p := fun z => by rw [z, q4] at z4; exact hbi.1.2 z4.symm
              simp [e1, e2])
          have := mxF_mem (T := mk n fb k) (F := fb p) (o := cl S p) (x := f p) (by rw [hbq, q3]; rfl) k (p + 1) (mk n fb k (cl S p)) (by omega) (by omega)
          omega
    · rw [if_neg b]
      exact mk_up hn hf k S (by omega) hS (fun i hi hbi => by
        have := hb i hi hbi
        have : i ≠ p := fun z => by rw [z] at hbi; exact b hbi
        omega) hc
/-- rows as numbers -/
def hr (f : Nat → Nat) : Nat → Nat
  | 0 => 0
  | k + 1 => hr f k * 7 + f k
theorem hr_c {f g : Nat → Nat} : ∀ k, (∀ i, i < k → f i = g i) → hr f k = hr g k
  | 0, _ => rfl
  | k + 1, h => by
    show hr f k * 7 + f k = hr g k * 7 + g k
    rw [hr_c k (fun i hi => h i (by omega)), h k (by omega)]
theorem hr_lt {g f : Nat → Nat} {p : Nat} (h1 : ∀ i, i < p → g i = f i) (h2 : g p < f p) : ∀ j, (∀ i, i < p + 1 + j → g i ≤ 6) → hr g (p + 1 + j) < hr f (p + 1 + j)
  | 0, _ => by
    show hr g p * 7 + g p < hr f p * 7 + f p
    rw [hr_c p h1]; omega
  | j + 1, h => by
    have ih := hr_lt h1 h2 j (fun i hi => h i (by omega))
    have := h (p + 1 + j) (by omega)
    show hr g (p + 1 + j) * 7 + g (p + 1 + j) < hr f (p + 1 + j) * 7 + f (p + 1 + j)
    omega
def up2 (g : Nat → Nat) (p q : Nat) : Nat → Nat := fun j => if j = p then q else if j = q then p else g j
def grF (n : Nat) (fb : Nat → Nat → Bool) : Nat → Nat → (Nat → Nat) → Nat → Nat
  | 0, _, g => g
  | k + 1, S, g => if bt S (n - (k + 1)) = true then
      (match fpF (mk n fb k) (fb (n - (k + 1))) (cl S (n - (k + 1))) (mk n fb (k + 1) S) k (n - (k + 1) + 1) with
       | none => grF n fb k (cl S (n - (k + 1))) g
       | some q => grF n fb k (cl (cl S (n - (k + 1))) q) (up2 g (n - (k + 1)) q))
     else grF n fb k S g
def cn (n : Nat) (g : Nat → Nat) : Nat := sg n (fun p => if g p ≠ 6 then 1 else 0)
def GI (n : Nat) (fb : Nat → Nat → Bool) (M0 k S : Nat) (g : Nat → Nat) : Prop := S < 256 ∧ (∀ i, i < n → bt S i = true → n - k ≤ i ∧ g i = 6) ∧ VM n fb g ∧ cn n g + 2 * mk n fb k S = 2 * M0
theorem GI_skip {n : Nat} {fb : Nat → Nat → Bool} {M0 k S : Nat} {g : Nat → Nat} (hk : k + 1 ≤ n) (h : GI n fb M0 (k + 1) S g) (b : ¬ bt S (n - (k + 1)) = true) : GI n fb M0 k S g := by
  obtain ⟨h1, h2, h3, h4⟩ := h
  refine ⟨h1, fun i hi hb => ⟨?_, (h2 i hi hb).2⟩, h3, ?_⟩
  · have := (h2 i hi hb).1
    have : i ≠ n - (k + 1) := fun z => by rw [z] at hb; exact b hb
    omega
  · rw [mk_s, if_neg b] at h4; exact h4
theorem GI_none {n : Nat} {fb : Nat → Nat → Bool} {M0 k S : Nat} {g : Nat → Nat} (hn : n ≤ 6) (hk : k + 1 ≤ n) (h : GI n fb M0 (k + 1) S g) (b : bt S (n - (k + 1)) = true) (hR : fpF (mk n fb k) (fb (n - (k + 1))) (cl S (n - (k + 1))) (mk n fb (k + 1) S) k (n - (k + 1) + 1) = none) : GI n fb M0 k (cl S (n - (k + 1))) g ∧ mk n fb (k + 1) S = mk n fb k (cl S (n - (k + 1))) := by
  obtain ⟨h1, h2, h3, h4⟩ := h
  have e : mk n fb (k + 1) S = mk n fb k (cl S (n - (k + 1))) := by
    have hn := fpF_none _ _ hR
    rw [mk_s, if_pos b] at hn ⊢
    rcases mxF_at (T := mk n fb k) (F := fb (n - (k + 1))) (o := cl S (n - (k + 1))) k (n - (k + 1) + 1) (mk n fb k (cl S (n - (k + 1)))) with q | ⟨x, q1, q2, q3, q4⟩
    · exact q
    · exact absurd ⟨q3, q4.symm⟩ (hn x q1 q2)
  refine ⟨⟨cl_lt h1 (by omega), fun i hi hb => ?_, h3, by rw [e] at h4; exact h4⟩, e⟩
  rw [bt_cl S h1 _ (by omega) i (by omega)] at hb
  simp at hb
  have := h2 i hi hb.1
  exact ⟨by omega, this.2⟩
theorem GI_some {n : Nat} {fb : Nat → Nat → Bool} {M0 k S q : Nat} {g : Nat → Nat} (hn : n ≤ 6) (hsym : ∀ a b, fb a b = fb b a) (hk : k + 1 ≤ n) (h : GI n fb M0 (k + 1) S g) (b : bt S (n - (k + 1)) = true) (hR : fpF (mk n fb k) (fb (n - (k + 1))) (cl S (n - (k + 1))) (mk n fb (k + 1) S) k (n - (k + 1) + 1) = some q) : GI n fb M0 k (cl (cl S (n - (k + 1))) q) (up2 g (n - (k + 1)) q) := by
  obtain ⟨h1, h2, h3, h4⟩ := h
  obtain ⟨p, hp⟩ : ∃ p, n - (k + 1) = p := ⟨_, rfl⟩
  simp only [hp] at b hR h2 ⊢
  obtain ⟨r1, r2, r3, r4, r5⟩ := fpF_some _ _ hR
  have ho := cl_lt h1 (show p < 8 by omega)
  have bo : ∀ i, i < 8 → bt (cl S p) i = (bt S i && !(i == p)) := fun i hi => bt_cl S h1 p (by omega) i hi
  have bo2 : ∀ i, i < 8 → bt (cl (cl S p) q) i = (bt (cl S p) i && !(i == q)) := fun i hi => bt_cl (cl S p) ho q (by omega) i hi
  rw [Bool.and_eq_true] at r3
  have bq : bt S q = true := by
    have := r3.1
    rw [bo q (by omega)] at this
    simp at this
    exact this.1
  have g6p := (h2 p (by omega) b).2
  have g6q := (h2 q (by omega) bq).2
  refine ⟨cl_lt ho (by omega), fun i hi hb => ?_, fun i hi => ?_, ?_⟩
  · rw [bo2 i (by omega), bo i (by omega)] at hb
    simp at hb
    have := h2 i hi hb.1.1
    refine ⟨by omega, ?_⟩
    unfold up2
    rw [if_neg hb.1.2, if_neg hb.2]
    exact this.2
  · unfold up2
    by_cases e1 : i = p
    · subst e1
      rw [if_pos rfl]
      refine Or.inr ⟨by omega, by omega, r3.2, ?_⟩
      rw [if_neg (by omega), if_pos rfl]
    · rw [if_neg e1]
      by_cases e2 : i = q
      · subst e2
        rw [if_pos rfl]
        refine Or.inr ⟨by omega, fun z => e1 z.symm, by rw [hsym]; exact r3.2, ?_⟩
        rw [if_pos rfl]
      · rw [if_neg e2]
        rcases h3 i hi with z | ⟨z1, z2, z3, z4⟩
        · exact Or.inl z
        · refine Or.inr ⟨z1, z2, z3, ?_⟩
          rw [if_neg (fun z => by rw [z, g6p] at z4; omega), if_neg (fun z => by rw [z, g6q] at z4; omega)]
          exact z4
  · have hq6 : q ≠ 6 := by omega
    have hp6 : p ≠ 6 := by omega
    have hqp : q ≠ p := by omega
    have e1 : cn n (fun j => if j = p then q else g j) = cn n g + 1 := by
      unfold cn
      refine sg_up (u0 := p) n (by omega) (fun u hu hne => ?_) ?_
      · simp [hne]
      · simp [g6p, hq6]
    have e2 : cn n (up2 g p q) = cn n (fun j => if j = p then q else g j) + 1 := by
      unfold cn up2
      refine sg_up (u0 := q) n (by omega) (fun u hu hne => ?_) ?_
      · by_cases e : u = p
        · simp [e]
        · simp [e, hne]
      · simp [hqp, g6q, hp6]
    omega
theorem gr_all {n : Nat} {fb : Nat → Nat → Bool} {M0 : Nat} (hn : n ≤ 6) (hsym : ∀ a b, fb a b = fb b a) : ∀ k S g, k ≤ n → GI n fb M0 k S g → VM n fb (grF n fb k S g) ∧ cn n (grF n fb k S g) = 2 * M0 ∧ ∀ i, i < n → bt S i = false → grF n fb k S g i = g i
  | 0, S, g, _, h => ⟨h.2.2.1, h.2.2.2, fun i _ _ => rfl⟩
  | k + 1, S, g, hk, h => by
    unfold grF
    by_cases b : bt S (n - (k + 1)) = true
    · rw [if_pos b]
      cases hR : fpF (mk n fb k) (fb (n - (k + 1))) (cl S (n - (k + 1))) (mk n fb (k + 1) S) k (n - (k + 1) + 1) with
      | none =>
        obtain ⟨a1, a2, a3⟩ := gr_all hn hsym k _ g (by omega) (GI_none hn hk h b hR).1
        refine ⟨a1, a2, fun i hi hb => a3 i hi ?_⟩
        rw [bt_cl S h.1 _ (by omega) i (by omega), hb]; rfl
      | some q =>
        obtain ⟨r1, r2, r3, r4, r5⟩ := fpF_some _ _ hR
        have ho := cl_lt h.1 (show n - (k + 1) < 8 by omega)
        obtain ⟨a1, a2, a3⟩ := gr_all hn hsym k _ _ (by omega) (GI_some hn hsym hk h b hR)
        refine ⟨a1, a2, fun i hi hb => ?_⟩
        have hq : bt S q = true := by
          rw [Bool.and_eq_true, bt_cl S h.1 _ (by omega) q (by omega), Bool.and_eq_true] at r3
          exact r3.1.1
        have := a3 i hi (by rw [bt_cl _ ho q (by omega) i (by omega), bt_cl S h.1 _ (by omega) i (by omega), hb]; rfl)
        dsimp only
        rw [this]
        unfold up2
        rw [if_neg (fun z => by rw [z, b] at hb; exact absurd hb (by simp)), if_neg (fun z => by rw [z, hq] at hb; exact absurd hb (by simp))]
    · rw [if_neg b]
      exact gr_all hn hsym k S g (by omega) (GI_skip hk h b)
theorem VM_6 {n : Nat} {fb : Nat → Nat → Bool} {g : Nat → Nat} (hn : n ≤ 6) (h : VM n fb g) {i : Nat} (hi : i < n) : g i ≤ 6 := by
  rcases h i hi with q | q
  · omega
  · have := q.1; omega
/-- no best row stands before the chosen one -/
theorem gr_first {n : Nat} {fb : Nat → Nat → Bool} {M0 : Nat} {f : Nat → Nat} (hn : n ≤ 6) (hsym : ∀ a b, fb a b = fb b a) (hf : VM n fb f) : ∀ k S g, k ≤ n → GI n fb M0 k S g → (∀ i, i < n → bt S i = false → f i = g i) → cs n f S = 2 * mk n fb k S → hr (grF n fb k S g) n ≤ hr f n
  | 0, S, g, _, h, ha, _ => by
    show hr g n ≤ hr f n
    rw [hr_c n (fun i hi => (ha i hi (by
      apply Classical.byContradiction
      intro z
      have := (h.2.1 i hi (by simpa using z)).1
      omega)).symm)]
    exact Nat.le_refl _
  | k + 1, S, g, hk, h, ha, hcs => by
    obtain ⟨G, hG⟩ : ∃ G, G = grF n fb (k + 1) S g := ⟨_, rfl⟩
    have hGa := gr_all hn hsym (k + 1) S g hk h
    rw [← hG] at hGa
    have hclo : ∀ i, i < n → bt S i = true → f i ≠ 6 → bt S (f i) = true := fun i hi hb h6 => by
      apply Classical.byContradiction
      intro z
      rcases hf i hi with q | ⟨q1, q2, q3, q4⟩
      · exact h6 q
      · have e1 := ha (f i) q1 (by simpa using z)
        rw [q4] at e1
        have hgi := (h.2.1 i hi hb).2
        rcases h.2.2.1 (f i) q1 with w | ⟨w1, w2, w3, w4⟩
        · omega
        · rw [← e1, hgi] at w4; omega
    have hGa3 : ∀ i, i < n - (k + 1) → G i = f i := fun i hi => by
      have hb : bt S i = false := by
        apply Classical.byContradiction
        intro z
        have := (h.2.1 i (by omega) (by simpa using z)).1
        omega
      rw [hGa.2.2 i (by omega) hb, ha i (by omega) hb]
    have lex : G (n - (k + 1)) < f (n - (k + 1)) → hr (grF n fb (k + 1) S g) n ≤ hr f n := fun hl => by
      have := hr_lt hGa3 hl k (fun i hi => VM_6 hn hGa.1 (by omega))
      rw [show n - (k + 1) + 1 + k = n by omega] at this
      rw [← hG]; omega
    by_cases b : bt S (n - (k + 1)) = true
    · have hS := h.1
      have ho := cl_lt hS (show n - (k + 1) < 8 by omega)
      have hg6 := (h.2.1 (n - (k + 1)) (by omega) b).2
      have hfS := cs_cl (f := f) hn hS (show n - (k + 1) < n by omega) b
      have bo : ∀ i, i < 8 → bt (cl S (n - (k + 1))) i = (bt S i && !(i == n - (k + 1))) := fun i hi => bt_cl S hS _ (by omega) i hi
      -- f's own choice is one that greed would take
      have hown : f (n - (k + 1)) ≠ 6 → f (n - (k + 1)) < n ∧ n - (k + 1) < f (n - (k + 1)) ∧ bt (cl S (n - (k + 1))) (f (n - (k + 1))) = true ∧ fb (n - (k + 1)) (f (n - (k + 1))) = true ∧ f (f (n - (k + 1))) = n - (k + 1) ∧ 1 + mk n fb k (cl (cl S (n - (k + 1))) (f (n - (k + 1)))) = mk n fb (k + 1) S ∧ cs n f (cl (cl S (n - (k + 1))) (f (n - (k + 1)))) = 2 * mk n fb k (cl (cl S (n - (k + 1))) (f (n - (k + 1)))) := fun h6 => by
        obtain ⟨p, hp⟩ : ∃ p, n - (k + 1) = p := ⟨_, rfl⟩
        simp only [hp] at b hfS bo ho h6 ⊢
        rcases hf p (by omega) with q | ⟨q1, q2, q3, q4⟩
        · exact absurd q h6
        · have hbS := hclo p (by omega) b h6
          have hbq : bt (cl S p) (f p) = true := by rw [bo (f p) (by omega), hbS]; simp [q2]
          have hge := (h.2.1 (f p) q1 hbS).1
          have bo2 : ∀ i, i < 8 → bt (cl (cl S p) (f p)) i = (bt (cl S p) i && !(i == f p)) := fun i hi => bt_cl (cl S p) ho (f p) (by omega) i hi
          have hp6 : f (f p) ≠ 6 := by rw [q4]; omega
          have hc2 := cs_cl (f := f) hn ho q1 hbq
          rw [if_pos hp6] at hc2
          rw [if_pos h6] at hfS
          have up := mk_up hn hf k (cl (cl S p) (f p)) (by omega) (cl_lt ho (by omega)) (fun i hi hbi => by
            rw [bo2 i (by omega), bo i (by omega)] at hbi
            simp at hbi
            have := (h.2.1 i hi hbi.1.1).1
            omega) (fun i hi hbi h => by
            rw [bo2 i (by omega), bo i (by omega)] at hbi
            simp at hbi
            rcases hf i hi with z | ⟨z1, z2, z3, z4⟩
            · exact absurd z h
            · rw [bo2 (f i) (by omega), bo (f i) (by omega), hclo i hi hbi.1.1 h]
              have e1 : ¬ f i = p := fun z => by rw [z] at z4; exact hbi.2 z4.symm
              have e2 : ¬ f i = f p := fun z => by rw [z, q4] at z4; exact hbi.1.2 z4.symm
              simp [e1, e2])
          have hm := mxF_mem (T := mk n fb k) (F := fb p) (o := cl S p) (x := f p) (by rw [hbq, q3]; rfl) k (p + 1) (mk n fb k (cl S p)) (by omega) (by omega)
          have hmk : mk n fb (k + 1) S = mxF (mk n fb k) (fb p) (cl S p) k (p + 1) (mk n fb k (cl S p)) := by rw [mk_s, hp, if_pos b]
          refine ⟨q1, by omega, hbq, q3, q4, by omega, by omega⟩
      have hgr : grF n fb (k + 1) S g = (match fpF (mk n fb k) (fb (n - (k + 1))) (cl S (n - (k + 1))) (mk n fb (k + 1) S) k (n - (k + 1) + 1) with
       | none => grF n fb k (cl S (n - (k + 1))) g
       | some q => grF n fb k (cl (cl S (n - (k + 1))) q) (up2 g (n - (k + 1)) q)) := by
        conv => lhs; unfold grF
        rw [if_pos b]
      cases hR : fpF (mk n fb k) (fb (n - (k + 1))) (cl S (n - (k + 1))) (mk n fb (k + 1) S) k (n - (k + 1) + 1) with
      | none =>
        rw [hR] at hgr
        dsimp only at hgr
        have f6 : f (n - (k + 1)) = 6 := by
          apply Classical.byContradiction
          intro z
          obtain ⟨w1, w2, w3, w4, w5, w6, w7⟩ := hown z
          exact fpF_none _ _ hR _ (by omega) (by omega) ⟨by rw [w3, w4]; rfl, w6⟩
        obtain ⟨g1, g2⟩ := GI_none hn hk h b hR
        rw [hgr]
        refine gr_first hn hsym hf k _ g (by omega) g1 (fun i hi hb => ?_) ?_
        · rw [bo i (by omega)] at hb
          by_cases e : i = n - (k + 1)
          · rw [e, f6, hg6]
          · exact ha i hi (by simpa [e] using hb)
        · rw [if_neg (by simp [f6])] at hfS
          omega
      | some q =>
        rw [hR] at hgr
        dsimp only at hgr
        obtain ⟨r1, r2, r3, r4, r5⟩ := fpF_some _ _ hR
        have hGI := GI_some hn hsym hk h b hR
        have hGp : G (n - (k + 1)) = q := by
          rw [hG, hgr, (gr_all hn hsym k _ _ (by omega) hGI).2.2 (n - (k + 1)) (by omega) (by
            rw [bt_cl _ ho q (by omega) _ (by omega), bo _ (by omega)]; simp)]
          unfold up2
          rw [if_pos rfl]
        by_cases h6 : f (n - (k + 1)) = 6
        · exact lex (by rw [hGp, h6]; omega)
        · obtain ⟨w1, w2, w3, w4, w5, w6, w7⟩ := hown h6
          by_cases e : f (n - (k + 1)) = q
          · rw [hgr]
            rw [e] at w5 w7
            refine gr_first hn hsym hf k _ _ (by omega) hGI (fun i hi hb => ?_) w7
            unfold up2
            by_cases e1 : i = n - (k + 1)
            · rw [if_pos e1, e1, e]
            · rw [if_neg e1]
              by_cases e2 : i = q
              · rw [if_pos e2, e2, w5]
              · rw [if_neg e2]
                rw [bt_cl _ ho q (by omega) i (by omega), bo i (by omega)] at hb
                exact ha i hi (by simpa [e1, e2] using hb)
          · have : q ≤ f (n - (k + 1)) := by
              apply Classical.byContradiction
              intro z
              exact r5 _ (by omega) (by omega) ⟨by rw [w3, w4]; rfl, w6⟩
            exact lex (by rw [hGp]; omega)
    · have hgr : grF n fb (k + 1) S g = grF n fb k S g := by
        conv => lhs; unfold grF
        rw [if_neg b]
      rw [hgr]
      rw [mk_s, if_neg b] at hcs
      exact gr_first hn hsym hf k S g (by omega) (GI_skip hk h b) ha hcs
