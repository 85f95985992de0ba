/-! a town told in letters: what the text says -/
def isD (c : Nat) : Bool := decide (48 ≤ c ∧ c ≤ 57)
def skF (x : Nat → Nat) (n : Nat) : Nat → Nat → Nat
  | 0, a => a
  | m + 1, a => if a < n ∧ x a = 32 then skF x n m (a + 1) else a
def skp (x : Nat → Nat) (n a : Nat) : Nat := skF x n (n - a) a
theorem skp_y {x : Nat → Nat} {n a : Nat} (h : a < n) (h2 : x a = 32) : skp x n a = skp x n (a + 1) := by
  unfold skp
  rw [show n - a = n - (a + 1) + 1 by omega]
  show (if a < n ∧ x a = 32 then skF x n (n - (a + 1)) (a + 1) else a) = _
  rw [if_pos ⟨h, h2⟩]
theorem skp_n {x : Nat → Nat} {n a : Nat} (h : ¬ (a < n ∧ x a = 32)) : skp x n a = a := by
  unfold skp
  cases e : n - a with
  | zero => rfl
  | succ m =>
    show (if a < n ∧ x a = 32 then skF x n m (a + 1) else a) = a
    rw [if_neg h]
theorem skp_p {x : Nat → Nat} {n : Nat} : ∀ m a, n - a ≤ m → a ≤ n → a ≤ skp x n a ∧ skp x n a ≤ n ∧ (skp x n a < n → x (skp x n a) ≠ 32) ∧ (∀ i, a ≤ i → i < skp x n a → x i = 32)
  | 0, a, h, ha => by
    rw [skp_n (by omega)]
    exact ⟨Nat.le_refl _, ha, fun h => by omega, fun i h1 h2 => by omega⟩
  | m + 1, a, h, ha => by
    by_cases c : a < n ∧ x a = 32
    · rw [skp_y c.1 c.2]
      obtain ⟨h1, h2, h3, h4⟩ := skp_p (x := x) (n := n) m (a + 1) (by omega) (by omega)
      refine ⟨by omega, h2, h3, fun i i1 i2 => ?_⟩
      by_cases e : i = a
      · rw [e]; exact c.2
      · exact h4 i (by omega) i2
    · rw [skp_n c]
      exact ⟨Nat.le_refl _, ha, fun h h2 => c ⟨h, h2⟩, fun i h1 h2 => by omega⟩
def deF (x : Nat → Nat) (n : Nat) : Nat → Nat → Nat
  | 0, a => a
  | m + 1, a => if a < n ∧ isD (x a) = true then deF x n m (a + 1) else a
def dge (x : Nat → Nat) (n a : Nat) : Nat := deF x n (n - a) a
theorem dge_y {x : Nat → Nat} {n a : Nat} (h : a < n) (h2 : isD (x a) = true) : dge x n a = dge x n (a + 1) := by
  unfold dge
  rw [show n - a = n - (a + 1) + 1 by omega]
  show (if a < n ∧ isD (x a) = true then deF x n (n - (a + 1)) (a + 1) else a) = _
  rw [if_pos ⟨h, h2⟩]
theorem dge_n {x : Nat → Nat} {n a : Nat} (h : ¬ (a < n ∧ isD (x a) = true)) : dge x n a = a := by
  unfold dge
  cases e : n - a with
  | zero => rfl
  | succ m =>
    show (if a < n ∧ isD (x a) = true then deF x n m (a + 1) else a) = a
    rw [if_neg h]
theorem dge_p {x : Nat → Nat} {n : Nat} : ∀ m a, n - a ≤ m → a ≤ n → a ≤ dge x n a ∧ dge x n a ≤ n ∧ (dge x n a < n → isD (x (dge x n a)) = false) ∧ (∀ i, a ≤ i → i < dge x n a → isD (x i) = true)
  | 0, a, h, ha => by
    rw [dge_n (by omega)]
    exact ⟨Nat.le_refl _, ha, fun h => by omega, fun i h1 h2 => by omega⟩
  | m + 1, a, h, ha => by
    by_cases c : a < n ∧ isD (x a) = true
    · rw [dge_y c.1 c.2]
      obtain ⟨h1, h2, h3, h4⟩ := dge_p (x := x) (n := n) m (a + 1) (by omega) (by omega)
      refine ⟨by omega, h2, h3, fun i i1 i2 => ?_⟩
      by_cases e : i = a
      · rw [e]; exact c.2
      · exact h4 i (by omega) i2
    · rw [dge_n c]
      refine ⟨Nat.le_refl _, ha, fun h => ?_, fun i h1 h2 => by omega⟩
      cases e : isD (x a) with
      | false => rfl
      | true => exact absurd ⟨h, e⟩ c
/-- the value as the reference counts it, and as the class does -/
def vR (x : Nat → Nat) (b : Nat) : Nat → Nat → Nat → Nat
  | 0, _, v => v
  | m + 1, i, v => vR x b m (i + 1) (if 2 < i - b then 9999 else 10 * v + (x i - 48))
def vC (x : Nat → Nat) (b : Nat) : Nat → Nat → Nat → Nat
  | 0, _, v => v
  | m + 1, i, v => vC x b m (i + 1) (if 2 < i - b then v else v * 10 + (x i - 48))
theorem vR_s (x : Nat → Nat) (b m i v : Nat) : vR x b (m + 1) i v = vR x b m (i + 1) (if 2 < i - b then 9999 else 10 * v + (x i - 48)) := rfl
theorem vC_s (x : Nat → Nat) (b m i v : Nat) : vC x b (m + 1) i v = vC x b m (i + 1) (if 2 < i - b then v else v * 10 + (x i - 48)) := rfl
theorem v_same {x : Nat → Nat} {b : Nat} : ∀ m i v, i + m ≤ b + 3 → vR x b m i v = vC x b m i v
  | 0, _, _, _ => rfl
  | m + 1, i, v, h => by
    rw [vR_s, vC_s, if_neg (by omega), if_neg (by omega), v_same m (i + 1) _ (by omega), Nat.mul_comm]
theorem v_big {x : Nat → Nat} {b : Nat} : ∀ m i v, b + 3 < i + m → 0 < m → vR x b m i v = 9999
  | 0, _, _, _, h => absurd h (by omega)
  | m + 1, i, v, h, _ => by
    rw [vR_s]
    cases m with
    | zero => rw [if_pos (by omega)]; rfl
    | succ m => exact v_big (m + 1) (i + 1) _ (by omega) (by omega)
def vbd (k : Nat) : Nat := if k = 0 then 1 else if k = 1 then 10 else if k = 2 then 100 else 1000
theorem vbd_s {k v w : Nat} (hk : k ≤ 2) (hv : v < vbd k) (hw : w ≤ 9) : v * 10 + w < vbd (k + 1) := by
  unfold vbd at *
  rcases (show k = 0 ∨ k = 1 ∨ k = 2 by omega) with e | e | e <;> subst e <;> simp at * <;> omega
theorem vbd_le (k : Nat) : vbd k ≤ 1000 := by unfold vbd; split <;> (try split) <;> (try split) <;> omega
theorem vbd_3 {k : Nat} (h : 2 < k) : vbd k = 1000 := by unfold vbd; rw [if_neg (by omega), if_neg (by omega), if_neg (by omega)]
theorem vC_lt {x : Nat → Nat} {b : Nat} : ∀ m i v, b ≤ i → (∀ j, i ≤ j → j < i + m → isD (x j) = true) → v < vbd (i - b) → vC x b m i v < 1000
  | 0, i, v, _, _, h => Nat.lt_of_lt_of_le h (vbd_le _)
  | m + 1, i, v, hi, hd, h => by
    rw [vC_s]
    refine vC_lt m (i + 1) _ (by omega) (fun j h1 h2 => hd j (by omega) (by omega)) ?_
    rw [show i + 1 - b = i - b + 1 by omega]
    by_cases c : 2 < i - b
    · rw [if_pos c, vbd_3 (by omega)]
      rw [vbd_3 c] at h; exact h
    · rw [if_neg c]
      have := hd i (by omega) (by omega)
      unfold isD at this
      simp only [decide_eq_true_eq] at this
      exact vbd_s (by omega) h (by omega)
def num1 (x : Nat → Nat) (n lo h1 a : Nat) : Sum (Nat × Nat) (Nat × Nat) := if skp x n a < n ∧ isD (x (skp x n a)) = true then (if lo ≤ vR x (skp x n a) (dge x n (skp x n a) - skp x n a) (skp x n a) 0 ∧ vR x (skp x n a) (dge x n (skp x n a) - skp x n a) (skp x n a) 0 < h1 then .inr (vR x (skp x n a) (dge x n (skp x n a) - skp x n a) (skp x n a) 0, dge x n (skp x n a)) else .inl (2, skp x n a)) else .inl (1, skp x n a)
def rlo (c k : Nat) : Nat := if (c = 116 ∧ k = 1) ∨ (c = 121 ∧ k = 0) then 1 else 0
def rhi (c P k : Nat) : Nat := if c = 112 then (if k = 0 then 100 else 1000) else if c = 116 then (if k = 0 then P else if k = 1 then 10 else 100) else if c = 121 then (if k = 0 then 9 else 2) else 100
def nOf (c : Nat) : Nat := if c = 112 then 2 else if c = 114 then 4 else if c = 116 then 3 else if c = 121 then 2 else 0
def nsR (x : Nat → Nat) (n c P : Nat) : Nat → Nat → Nat → (Nat → Nat) → Sum (Nat × Nat) ((Nat → Nat) × Nat)
  | 0, _, a, f => .inr (f, a)
  | j + 1, k, a, f => match num1 x n (rlo c k) (rhi c P k) a with
    | .inl e => .inl e
    | .inr (v, e) => nsR x n c P j (k + 1) e (va_up f k v)
abbrev Sx : Type := (Tw × Nat × Nat) × (Nat → Nat) × (Nat → Nat) × (Nat → Nat) × (Nat → Nat)
abbrev sW (S : Sx) : Tw := S.1.1
abbrev sYt (S : Sx) : Nat := S.1.2.1
abbrev sRt (S : Sx) : Nat := S.1.2.2
abbrev sA (S : Sx) : Nat → Nat := S.2.1
abbrev sC (S : Sx) : Nat → Nat := S.2.2.1
abbrev sH (S : Sx) : Nat → Nat := S.2.2.2.1
abbrev sPr (S : Sx) : Nat → Nat := S.2.2.2.2
def manyS (c : Nat) (S : Sx) : Prop := (c = 112 ∧ tP (sW S) = 6) ∨ (c = 116 ∧ tK (sW S) = 8) ∨ (c = 121 ∧ sYt S = 1) ∨ (c = 114 ∧ sRt S = 1)
def addS (c : Nat) (f : Nat → Nat) (S : Sx) : Sx :=
  if c = 112 then ((((tP (sW S) + 1, tK (sW S), tY (sW S), tR (sW S)), tG (sW S), tW (sW S)), sYt S, sRt S), va_up (sA S) (tP (sW S)) (f 0), va_up (sC S) (tP (sW S)) (f 1), sH S, sPr S)
  else if c = 116 then ((((tP (sW S), tK (sW S) + 1, tY (sW S), tR (sW S)), tG (sW S), va_up (tW (sW S)) (tK (sW S)) (f 1)), sYt S, sRt S), sA S, sC S, va_up (sH S) (tK (sW S)) (f 0), va_up (sPr S) (tK (sW S)) (f 2))
  else if c = 121 then ((((tP (sW S), tK (sW S), f 0, f 1), tG (sW S), tW (sW S)), 1, sRt S), sA S, sC S, sH S, sPr S)
  else ((((tP (sW S), tK (sW S), tY (sW S), tR (sW S)), f, tW (sW S)), sYt S, 1), sA S, sC S, sH S, sPr S)
def isW (c : Nat) : Prop := c = 112 ∨ c = 116 ∨ c = 121 ∨ c = 114
noncomputable def clS (x : Nat → Nat) (n : Nat) (S : Sx) (b : Nat) : Sum (Nat × Nat) (Sx × Nat) :=
  @ite _ (isW (x b)) (Classical.propDecidable _) (@ite _ (manyS (x b) S) (Classical.propDecidable _) (.inl (3, b))
    (match nsR x n (x b) (tP (sW S)) (nOf (x b)) 0 (b + 1) (fun _ => 0) with
     | .inl e => .inl e
     | .inr (f, a) => if skp x n a < n ∧ x (skp x n a) = 59 then .inr (addS (x b) f S, skp x n a + 1) else .inl (1, skp x n a))) (.inl (1, b))
noncomputable def prs (x : Nat → Nat) (n : Nat) : Nat → Nat → Sx → Sum (Nat × Nat) Sx
  | 0, _, S => .inr S
  | m + 1, a, S => if skp x n a < n then (match clS x n S (skp x n a) with
      | .inl e => .inl e
      | .inr (S', a') => prs x n m a' S') else .inr S
/-- what holds of a town while it is read -/
def SOK (S : Sx) : Prop := TwOK (sW S) ∧ sYt S ≤ 1 ∧ sRt S ≤ 1 ∧ (∀ p, p < tP (sW S) → sA S p ≤ 99 ∧ sC S p ≤ 999) ∧ (∀ t, t < tK (sW S) → sH S t < tP (sW S) ∧ sPr S t ≤ 99)
theorem num1_p {x : Nat → Nat} {n lo h1 a v e : Nat} (ha : a ≤ n) (h : num1 x n lo h1 a = .inr (v, e)) : lo ≤ v ∧ v < h1 ∧ a < e ∧ e ≤ n := by
  unfold num1 at h
  by_cases c : skp x n a < n ∧ isD (x (skp x n a)) = true
  · rw [if_pos c] at h
    by_cases c2 : lo ≤ vR x (skp x n a) (dge x n (skp x n a) - skp x n a) (skp x n a) 0 ∧ vR x (skp x n a) (dge x n (skp x n a) - skp x n a) (skp x n a) 0 < h1
    · rw [if_pos c2] at h
      cases h
      obtain ⟨s1, s2, _, _⟩ := skp_p (x := x) (n := n) _ a (Nat.le_refl _) ha
      obtain ⟨d1, d2, _, _⟩ := dge_p (x := x) (n := n) _ (skp x n a + 1) (Nat.le_refl _) (by omega)
      rw [dge_y c.1 c.2] at *
      exact ⟨c2.1, c2.2, by omega, d2⟩
    · rw [if_neg c2] at h; cases h
  · rw [if_neg c] at h; cases h
theorem nsR_p {x : Nat → Nat} {n c P : Nat} : ∀ j k a f g e, a ≤ n → nsR x n c P j k a f = .inr (g, e) → a ≤ e ∧ e ≤ n ∧ (∀ i, i < k → g i = f i) ∧ (∀ i, k ≤ i → i < k + j → rlo c i ≤ g i ∧ g i < rhi c P i)
  | 0, k, a, f, g, e, ha, h => by
    cases h
    exact ⟨Nat.le_refl _, ha, fun i _ => rfl, fun i h1 h2 => by omega⟩
  | j + 1, k, a, f, g, e, ha, h => by
    unfold nsR at h
    cases hn : num1 x n (rlo c k) (rhi c P k) a with
    | inl z => rw [hn] at h; cases h
    | inr ve =>
      obtain ⟨v, e1⟩ := ve
      rw [hn] at h
      dsimp only at h
      obtain ⟨q1, q2, q3, q4⟩ := num1_p ha hn
      obtain ⟨r1, r2, r3, r4⟩ := nsR_p j (k + 1) e1 _ g e q4 h
      refine ⟨by omega, r2, fun i hi => by rw [r3 i (by omega), g_up_n _ _ (by omega)], fun i i1 i2 => ?_⟩
      by_cases e : i = k
      · rw [e, r3 k (by omega), g_up_s]; exact ⟨q1, q2⟩
      · exact r4 i (by omega) (by omega)
theorem addS_ok {S : Sx} {c : Nat} {f : Nat → Nat} (h : SOK S) (hc : isW c) (hm : ¬ manyS c S) (hf : ∀ i, i < nOf c → rlo c i ≤ f i ∧ f i < rhi c (tP (sW S)) i) : SOK (addS c f S) := by
  obtain ⟨⟨w1, w2, w3, w4, w5, w6, w7, w8⟩, y1, y2, p1, t1⟩ := h
  unfold manyS at hm
  rcases hc with e | e | e | e <;> subst e
  · have f0 := hf 0 (by decide)
    have f1 := hf 1 (by decide)
    simp [rlo, rhi] at f0 f1
    have hne : tP (sW S) ≠ 6 := fun z => hm (Or.inl ⟨rfl, z⟩)
    refine ⟨⟨?_, w2, w3, w4, w5, w6, w7, fun _ => ?_⟩, y1, y2, fun p hp => ?_, fun t ht => ?_⟩
    · show tP (sW S) + 1 ≤ 6; omega
    · show 0 < tP (sW S) + 1; omega
    · show va_up (sA S) (tP (sW S)) (f 0) p ≤ 99 ∧ va_up (sC S) (tP (sW S)) (f 1) p ≤ 999
      have hp' : p < tP (sW S) + 1 := hp
      by_cases e : p = tP (sW S)
      · rw [e, g_up_s, g_up_s]; omega
      · rw [g_up_n _ _ e, g_up_n _ _ e]; exact p1 p (by omega)
    · have := t1 t ht
      exact ⟨Nat.lt_succ_of_lt this.1, this.2⟩
  · have f0 := hf 0 (by decide)
    have f1 := hf 1 (by decide)
    have f2 := hf 2 (by decide)
    simp [rlo, rhi] at f0 f1 f2
    have hne : tK (sW S) ≠ 8 := fun z => hm (Or.inr (Or.inl ⟨rfl, z⟩))
    refine ⟨⟨w1, ?_, w3, w4, w5, w6, fun t ht => ?_, fun _ => ?_⟩, y1, y2, p1, fun t ht => ?_⟩
    · show tK (sW S) + 1 ≤ 8; omega
    · show 1 ≤ va_up (tW (sW S)) (tK (sW S)) (f 1) t ∧ va_up (tW (sW S)) (tK (sW S)) (f 1) t ≤ 9
      have ht' : t < tK (sW S) + 1 := ht
      by_cases e : t = tK (sW S)
      · rw [e, g_up_s]; omega
      · rw [g_up_n _ _ e]; exact w7 t (by omega)
    · show 0 < tP (sW S); omega
    · show va_up (sH S) (tK (sW S)) (f 0) t < tP (sW S) ∧ va_up (sPr S) (tK (sW S)) (f 2) t ≤ 99
      have ht' : t < tK (sW S) + 1 := ht
      by_cases e : t = tK (sW S)
      · rw [e, g_up_s, g_up_s]; omega
      · rw [g_up_n _ _ e, g_up_n _ _ e]; exact t1 t (by omega)
  · have f0 := hf 0 (by decide)
    have f1 := hf 1 (by decide)
    simp [rlo, rhi] at f0 f1
    refine ⟨⟨w1, w2, ?_, ?_, ?_, w6, w7, w8⟩, Nat.le_refl _, y2, p1, t1⟩
    · show 1 ≤ f 0; omega
    · show f 0 ≤ 8; omega
    · show f 1 ≤ 1; omega
  · refine ⟨⟨w1, w2, w3, w4, w5, fun r hr => ?_, w7, w8⟩, y1, Nat.le_refl _, p1, t1⟩
    show f r ≤ 99
    have := hf r (show r < 4 from hr)
    simp [rlo, rhi] at this
    omega
