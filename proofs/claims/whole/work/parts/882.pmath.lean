/-! sums; parts of a billion over sets -/
def sg : Nat → (Nat → Nat) → Nat
  | 0, _ => 0
  | k + 1, F => sg k F + F k
theorem sg_s (k : Nat) (F : Nat → Nat) : sg (k + 1) F = sg k F + F k := rfl
theorem sg_c {F G : Nat → Nat} : ∀ k, (∀ u, u < k → F u = G u) → sg k F = sg k G
  | 0, _ => rfl
  | k + 1, h => by rw [sg_s, sg_s, sg_c k (fun u hu => h u (by omega)), h k (by omega)]
theorem sg_up {F G : Nat → Nat} {u0 e : Nat} : ∀ k, u0 < k → (∀ u, u < k → u ≠ u0 → G u = F u) → G u0 = F u0 + e → sg k G = sg k F + e
  | 0, h, _, _ => absurd h (by omega)
  | k + 1, h, h1, h2 => by
    rw [sg_s, sg_s]
    by_cases q : u0 = k
    · subst q
      rw [sg_c u0 (fun u hu => h1 u (by omega) (by omega)), h2]
      omega
    · rw [sg_up k (by omega) (fun u hu => h1 u (by omega)) h2, h1 k (by omega) (fun z => q z.symm)]
      omega
theorem sg_mem {F : Nat → Nat} {u : Nat} : ∀ k, u < k → F u ≤ sg k F
  | 0, h => absurd h (by omega)
  | k + 1, h => by
    rw [sg_s]
    by_cases q : u = k
    · subst q; omega
    · have := sg_mem (F := F) k (show u < k by omega); omega
theorem sg_0 {F : Nat → Nat} : ∀ k, (∀ u, u < k → F u = 0) → sg k F = 0
  | 0, _ => rfl
  | k + 1, h => by rw [sg_s, sg_0 k (fun u hu => h u (by omega)), h k (by omega)]
theorem sg_ne {F : Nat → Nat} {k : Nat} (h : sg k F ≠ 0) : ∃ u, u < k ∧ F u ≠ 0 := by
  apply Classical.byContradiction
  intro hn
  refine h (sg_0 k (fun u hu => ?_))
  apply Classical.byContradiction
  intro q
  exact hn ⟨u, hu, q⟩
theorem sg_mono {F : Nat → Nat} {j : Nat} : ∀ k, j ≤ k → sg j F ≤ sg k F
  | 0, h => by rw [show j = 0 by omega]; exact Nat.le_refl _
  | k + 1, h => by
    by_cases q : j = k + 1
    · rw [q]; exact Nat.le_refl _
    · rw [sg_s]; have := sg_mono (F := F) k (show j ≤ k by omega); omega
theorem bx1 : ∀ x, x < 256 → ∀ t, t < 8 → bt x t = false → x + 2 ^ t < 256 ∧ bt (x + 2 ^ t) t = true ∧ cl (x + 2 ^ t) t = x ∧ pc8 (x + 2 ^ t) = pc8 x + 1 := by decide +kernel
theorem bx2 : ∀ s, s < 256 → ∀ t, t < 8 → bt s t = true → bt (cl s t) t = false ∧ cl s t + 2 ^ t = s ∧ cl s t < s := by decide +kernel
theorem bx3 : ∀ K, K < 9 → ∀ x, x < 2 ^ K → ∀ t, t < K → bt x t = false → x + 2 ^ t < 2 ^ K := by decide +kernel
theorem two_pos (t : Nat) : 1 ≤ 2 ^ t := Nat.pow_pos (by omega)
/-- rising: what the sets below s, and the tickets below t of s, have handed on -/
def Hs (w : Nat → Nat) (K : Nat) (f base : Nat → Nat) (s t x : Nat) : Nat := base x + sg K (fun u => if bt x u = false ∧ (x + 2 ^ u < s ∨ (x + 2 ^ u = s ∧ u < t)) then f (x + 2 ^ u) * w u / wsm w (x + 2 ^ u) K else 0)
theorem H_step {w : Nat → Nat} {K : Nat} {f base : Nat → Nat} {s t x : Nat} (hK : K ≤ 8) (ht : t < K) (hx : x < 256) (hs : s < 256) : Hs w K f base s (t + 1) x = Hs w K f base s t x + (if bt s t = true ∧ x = cl s t then f s * w t / wsm w s K else 0) := by
  unfold Hs
  rw [Nat.add_assoc]
  refine congrArg (base x + ·) ?_
  refine sg_up (u0 := t) K ht (fun u hu hne => ?_) ?_
  · by_cases h : bt x u = false ∧ (x + 2 ^ u < s ∨ (x + 2 ^ u = s ∧ u < t))
    · rw [if_pos h, if_pos ⟨h.1, h.2.elim Or.inl (fun q => Or.inr ⟨q.1, by omega⟩)⟩]
    · rw [if_neg h, if_neg (fun q => h ⟨q.1, q.2.elim Or.inl (fun r => Or.inr ⟨r.1, by omega⟩)⟩)]
  · by_cases hb : bt x t = false
    · obtain ⟨b1, b2, b3, b4⟩ := bx1 x hx t (by omega) hb
      by_cases e : x + 2 ^ t = s
      · have hb2 : bt s t = true ∧ x = cl s t := by rw [← e]; exact ⟨b2, b3.symm⟩
        rw [if_pos ⟨hb, Or.inr ⟨e, by omega⟩⟩, if_neg (fun q => by omega), if_pos hb2, e, Nat.zero_add]
      · have hb2 : ¬ (bt s t = true ∧ x = cl s t) := fun q => e (by rw [q.2]; exact (bx2 s hs t (by omega) q.1).2.1)
        rw [if_neg hb2]
        by_cases l : x + 2 ^ t < s
        · rw [if_pos ⟨hb, Or.inl l⟩, if_pos ⟨hb, Or.inl l⟩, Nat.add_zero]
        · rw [if_neg (fun q => by omega), if_neg (fun q => by omega)]
    · have hb2 : ¬ (bt s t = true ∧ x = cl s t) := fun q => hb (by rw [q.2]; exact (bx2 s hs t (by omega) q.1).1)
      rw [if_neg (fun q => hb q.1), if_neg (fun q => hb q.1), if_neg hb2]
theorem H_next {w : Nat → Nat} {K : Nat} {f base : Nat → Nat} {s x : Nat} : Hs w K f base s K x = Hs w K f base (s + 1) 0 x := by
  unfold Hs
  refine congrArg (base x + ·) (sg_c K (fun u hu => ?_))
  by_cases h : bt x u = false ∧ (x + 2 ^ u < s ∨ (x + 2 ^ u = s ∧ u < K))
  · rw [if_pos h, if_pos ⟨h.1, Or.inl (by omega)⟩]
  · rw [if_neg h, if_neg (fun q => h ⟨q.1, by omega⟩)]
theorem H_zero {w : Nat → Nat} {K : Nat} {f base : Nat → Nat} {s t x : Nat} (h0 : f s = 0) : Hs w K f base s t x = Hs w K f base (s + 1) 0 x := by
  unfold Hs
  refine congrArg (base x + ·) (sg_c K (fun u hu => ?_))
  by_cases e : x + 2 ^ u = s
  · rw [e, h0, Nat.zero_mul, Nat.zero_div]
    split <;> split <;> rfl
  · by_cases h : bt x u = false ∧ (x + 2 ^ u < s ∨ (x + 2 ^ u = s ∧ u < t))
    · rw [if_pos h, if_pos ⟨h.1, Or.inl (by omega)⟩]
    · rw [if_neg h, if_neg (fun q => h ⟨q.1, by omega⟩)]
theorem H_start {w : Nat → Nat} {K : Nat} {f base : Nat → Nat} {x : Nat} : Hs w K f base 1 0 x = base x := by
  unfold Hs
  rw [sg_0 K (fun u hu => if_neg (fun q => by have := two_pos u; omega)), Nat.add_zero]
theorem dv_add (a b c : Nat) : a / c + b / c ≤ (a + b) / c := by
  by_cases h : c = 0
  · subst h; rw [Nat.div_zero, Nat.div_zero, Nat.div_zero]
    exact Nat.le_refl _
  · rw [Nat.le_div_iff_mul_le (by omega), Nat.add_mul]
    have := Nat.div_mul_le_self a c
    have := Nat.div_mul_le_self b c
    omega
theorem mass_step {w : Nat → Nat} {K M : Nat} {f base : Nat → Nat} {s t : Nat} (hM : M = 256) (hK : K ≤ 8) (ht : t < K) (hs : s < 256) : sg M (Hs w K f base s (t + 1)) = sg M (Hs w K f base s t) + (if bt s t = true then f s * w t / wsm w s K else 0) := by
  by_cases hb : bt s t = true
  · obtain ⟨b1, b2, b3⟩ := bx2 s hs t (by omega) hb
    rw [if_pos hb]
    refine sg_up (u0 := cl s t) M (by omega) (fun u hu hne => ?_) ?_
    · rw [H_step hK ht (by omega) hs, if_neg (fun q => hne q.2), Nat.add_zero]
    · rw [H_step hK ht (by omega) hs, if_pos ⟨hb, rfl⟩]
  · rw [if_neg hb, Nat.add_zero]
    exact sg_c M (fun u hu => by rw [H_step hK ht (by omega) hs, if_neg (fun q => hb q.1), Nat.add_zero])
theorem mass_in {w : Nat → Nat} {K M : Nat} {f base : Nat → Nat} {s : Nat} (hM : M = 256) (hK : K ≤ 8) (hs : s < 256) : ∀ t, t ≤ K → sg M (Hs w K f base s t) ≤ sg M (Hs w K f base s 0) + f s * wsm w s t / wsm w s K
  | 0, _ => Nat.le_add_right _ _
  | t + 1, h => by
    have ih := mass_in (w := w) (f := f) (base := base) hM hK hs t (by omega)
    rw [mass_step hM hK (by omega) hs, wsm_s]
    by_cases hb : bt s t = true
    · rw [if_pos hb, if_pos hb, Nat.mul_add]
      have := dv_add (f s * wsm w s t) (f s * w t) (wsm w s K)
      omega
    · rw [if_neg hb, if_neg hb, Nat.add_zero, Nat.add_zero]
      exact ih
theorem mass_part {w : Nat → Nat} {K : Nat} {f : Nat → Nat} {s t : Nat} (ht : t ≤ K) : f s * wsm w s t / wsm w s K ≤ f s := by
  have hm : ∀ j, wsm w s t ≤ wsm w s (t + j) := by
    intro j
    induction j with
    | zero => exact Nat.le_refl _
    | succ j ih => rw [show t + (j + 1) = t + j + 1 by omega, wsm_s]; omega
  have h2 := hm (K - t)
  rw [show t + (K - t) = K by omega] at h2
  by_cases h0 : wsm w s K = 0
  · rw [h0, Nat.div_zero]; omega
  · exact gstep_le h2 (by omega)
theorem mass_1 {w : Nat → Nat} {K M : Nat} {f : Nat → Nat} (hM : M = 256) : sg M (Hs w K f (fun x => if x = 0 then f 0 else 0) 1 0) ≤ sg 1 f := by
  have e : sg M (Hs w K f (fun x => if x = 0 then f 0 else 0) 1 0) = sg M (fun _ => 0) + f 0 := by
    refine sg_up (u0 := 0) M (by omega) (fun u hu hne => ?_) ?_
    · rw [H_start, if_neg hne]
    · rw [H_start, if_pos rfl, Nat.zero_add]
  rw [e, sg_0 M (fun u _ => rfl)]
  exact Nat.le_refl _
theorem mass_all {w : Nat → Nat} {K M : Nat} {f : Nat → Nat} (hM : M = 256) (hK : K ≤ 8) : ∀ s, s + 1 ≤ 256 → sg M (Hs w K f (fun x => if x = 0 then f 0 else 0) (s + 1) 0) ≤ sg (s + 1) f
  | 0, _ => mass_1 hM
  | s + 1, h => by
    have ih := mass_all (w := w) (f := f) hM hK s (by omega)
    have h1 := mass_in (w := w) (f := f) (base := fun x => if x = 0 then f 0 else 0) hM hK (show s + 1 < 256 by omega) K (Nat.le_refl _)
    have h2 := mass_part (w := w) (K := K) (f := f) (s := s + 1) (t := K) (Nat.le_refl _)
    have e : sg M (Hs w K f (fun x => if x = 0 then f 0 else 0) (s + 1) K) = sg M (Hs w K f (fun x => if x = 0 then f 0 else 0) (s + 1 + 1) 0) := sg_c M (fun u _ => H_next)
    rw [sg_s (s + 1) f]
    omega
/-- what one level hands on is never more than a billion -/
theorem H_le {w : Nat → Nat} {K M : Nat} {f : Nat → Nat} {s t x B : Nat} (hM : M = 256) (hK : K ≤ 8) (h1 : 1 ≤ s) (hs : s < 256) (ht : t ≤ K) (hx : x < 256) (hf : sg M f ≤ B) : Hs w K f (fun x => if x = 0 then f 0 else 0) s t x ≤ B := by
  obtain ⟨s', rfl⟩ : ∃ s', s = s' + 1 := ⟨s - 1, by omega⟩
  have a1 := mass_all (w := w) (f := f) hM hK s' (by omega)
  have a2 := mass_in (w := w) (f := f) (base := fun x => if x = 0 then f 0 else 0) hM hK hs t ht
  have a3 := mass_part (w := w) (K := K) (f := f) (s := s' + 1) ht
  have a4 := sg_mem (F := Hs w K f (fun x => if x = 0 then f 0 else 0) (s' + 1) t) M (show x < M by omega)
  have a5 := sg_mono (F := f) (j := s' + 1 + 1) M (by omega)
  rw [sg_s (s' + 1) f] at a5
  omega
/-- level k of the parts -/
def Qp (w : Nat → Nat) (K D : Nat) : Nat → Nat → Nat
  | 0 => fun x => if x = D then 1000000000 else 0
  | k + 1 => Hs w K (Qp w K D k) (fun x => if x = 0 then Qp w K D k 0 else 0) (2 ^ K) 0
theorem Qp_s (w : Nat → Nat) (K D k : Nat) : Qp w K D (k + 1) = Hs w K (Qp w K D k) (fun x => if x = 0 then Qp w K D k 0 else 0) (2 ^ K) 0 := rfl
theorem Qp_0 (w : Nat → Nat) (K D x : Nat) : Qp w K D 0 x = if x = D then 1000000000 else 0 := rfl
theorem Q_mass {w : Nat → Nat} {K D M : Nat} (hM : M = 256) (hK : K ≤ 8) (hD : D < 256) : ∀ k, sg M (Qp w K D k) ≤ 1000000000
  | 0 => by
    have e : sg M (Qp w K D 0) = sg M (fun _ => 0) + 1000000000 := by
      refine sg_up (u0 := D) M (by omega) (fun u hu hne => ?_) ?_
      · rw [Qp_0, if_neg hne]
      · rw [Qp_0, if_pos rfl, Nat.zero_add]
    rw [e, sg_0 M (fun u _ => rfl), Nat.zero_add]
    exact Nat.le_refl _
  | k + 1 => by
    have ih := Q_mass (w := w) hM hK hD k
    have h2 := pow8 hK
    obtain ⟨s, hs⟩ : ∃ s, 2 ^ K = s + 1 := ⟨2 ^ K - 1, by have := two_pos K; omega⟩
    have h3 := mass_all (w := w) (f := Qp w K D k) hM hK s (by omega)
    have h4 := sg_mono (F := Qp w K D k) (j := s + 1) M (by omega)
    rw [Qp_s, hs]
    omega
theorem Q_le {w : Nat → Nat} {K D k x : Nat} (hK : K ≤ 8) (hD : D < 256) (hx : x < 256) : Qp w K D k x ≤ 1000000000 := by
  obtain ⟨M, hM⟩ : ∃ M, M = 256 := ⟨256, rfl⟩
  exact Nat.le_trans (sg_mem M (by omega)) (Q_mass hM hK hD k)
theorem pc8_0 : pc8 0 = 0 := by decide
/-- where the parts of a level lie -/
theorem Q_supp {w : Nat → Nat} {K D : Nat} (hK : K ≤ 8) (hD : D < 2 ^ K) : ∀ m, m ≤ pc8 D → ∀ x, x < 256 → Qp w K D m x ≠ 0 → pc8 x + m = pc8 D ∧ x ≤ D
  | 0, _, x, hx, h => by
    rw [Qp_0] at h
    by_cases e : x = D
    · subst e; exact ⟨rfl, Nat.le_refl _⟩
    · rw [if_neg e] at h; exact absurd rfl h
  | m + 1, hm, x, hx, h => by
    have hp := pow8 hK
    rw [Qp_s] at h
    unfold Hs at h
    have ih := Q_supp (w := w) hK hD m (by omega)
    by_cases hb : (if x = 0 then Qp w K D m 0 else 0) = 0
    · have h2 : sg K (fun u => if bt x u = false ∧ (x + 2 ^ u < 2 ^ K ∨ (x + 2 ^ u = 2 ^ K ∧ u < 0)) then Qp w K D m (x + 2 ^ u) * w u / wsm w (x + 2 ^ u) K else 0) ≠ 0 := fun q => h (by show (if x = 0 then Qp w K D m 0 else 0) + _ = 0; rw [hb, q])
      obtain ⟨u, hu, hne⟩ := sg_ne h2
      by_cases hc : bt x u = false ∧ (x + 2 ^ u < 2 ^ K ∨ (x + 2 ^ u = 2 ^ K ∧ u < 0))
      · rw [if_pos hc] at hne
        have hq : Qp w K D m (x + 2 ^ u) ≠ 0 := fun q => hne (by rw [q, Nat.zero_mul, Nat.zero_div])
        obtain ⟨b1, b2, b3, b4⟩ := bx1 x hx u (by omega) hc.1
        obtain ⟨c1, c2⟩ := ih (x + 2 ^ u) b1 hq
        have := two_pos u
        omega
      · rw [if_neg hc] at hne; exact absurd rfl hne
    · by_cases e : x = 0
      · subst e
        rw [if_pos rfl] at hb
        have := ih 0 (by omega) hb
        rw [pc8_0] at this
        omega
      · rw [if_neg e] at hb; exact absurd rfl hb
theorem pc8_z : ∀ x, x < 256 → pc8 x = 0 → x = 0 := by decide +kernel
/-- past the last ticket nothing moves -/
theorem Q_stay {w : Nat → Nat} {K D : Nat} (hK : K ≤ 8) (hD : D < 2 ^ K) : ∀ j x, x < 256 → Qp w K D (pc8 D + j) x = Qp w K D (pc8 D) x
  | 0, x, _ => rfl
  | j + 1, x, hx => by
    have hp := pow8 hK
    have ih := Q_stay (w := w) hK hD j
    have hz : ∀ y, y < 256 → y ≠ 0 → Qp w K D (pc8 D + j) y = 0 := fun y hy hne => by
      rw [ih y hy]
      apply Classical.byContradiction
      intro q
      have := Q_supp hK hD (pc8 D) (Nat.le_refl _) y hy q
      exact hne (pc8_z y hy (by omega))
    rw [show pc8 D + (j + 1) = pc8 D + j + 1 by omega, Qp_s]
    unfold Hs
    rw [sg_0 K (fun u hu => ?_), Nat.add_zero]
    · show (if x = 0 then Qp w K D (pc8 D + j) 0 else 0) = _
      by_cases e : x = 0
      · subst e; rw [if_pos rfl]; exact ih 0 hx
      · rw [if_neg e, ← ih x hx, hz x hx e]
    · by_cases hc : bt x u = false ∧ (x + 2 ^ u < 2 ^ K ∨ (x + 2 ^ u = 2 ^ K ∧ u < 0))
      · rw [if_pos hc]
        have := two_pos u
        rw [hz (x + 2 ^ u) (by omega) (by omega), Nat.zero_mul, Nat.zero_div]
      · rw [if_neg hc]
/-- the part of a set, at the level that it belongs to -/
def qp (w : Nat → Nat) (K D x : Nat) : Nat := Qp w K D (pc8 D - pc8 x) x
def lft (D n : Nat) : Nat := pc8 D - (if pc8 D < n then pc8 D else n)
theorem Q_qp {w : Nat → Nat} {K D n x : Nat} (hK : K ≤ 8) (hD : D < 2 ^ K) (hx : x < 256) : Qp w K D n x = if pc8 x = lft D n then qp w K D x else 0 := by
  have key : ∀ m, m ≤ pc8 D → Qp w K D m x = if pc8 x = pc8 D - m then qp w K D x else 0 := by
    intro m hm
    by_cases e : pc8 x = pc8 D - m
    · rw [if_pos e]; unfold qp; rw [e, show pc8 D - (pc8 D - m) = m by omega]
    · rw [if_neg e]
      apply Classical.byContradiction
      intro q
      have := (Q_supp hK hD m hm x hx q).1
      omega
  unfold lft
  by_cases h : pc8 D < n
  · rw [if_pos h]
    have e := Q_stay (w := w) hK hD (n - pc8 D) x hx
    rw [show pc8 D + (n - pc8 D) = n by omega] at e
    rw [e]
    exact key (pc8 D) (Nat.le_refl _)
  · rw [if_neg h]
    exact key n (by omega)
/-- falling: what the sets from c on to D, and the tickets below t of c - 1, have handed on -/
def Pd (w : Nat → Nat) (K D L c t x : Nat) : Nat := (if x = D then 1000000000 else 0) + sg K (fun u => if bt x u = false ∧ L < pc8 (x + 2 ^ u) ∧ ((c ≤ x + 2 ^ u ∧ x + 2 ^ u ≤ D) ∨ (x + 2 ^ u + 1 = c ∧ u < t)) then qp w K D (x + 2 ^ u) * w u / wsm w (x + 2 ^ u) K else 0)
theorem P_step {w : Nat → Nat} {K D L s t x : Nat} (hK : K ≤ 8) (ht : t < K) (hx : x < 256) (hs : s < 256) (hL : L < pc8 s) : Pd w K D L (s + 1) (t + 1) x = Pd w K D L (s + 1) t x + (if bt s t = true ∧ x = cl s t then qp w K D s * w t / wsm w s K else 0) := by
  unfold Pd
  rw [Nat.add_assoc]
  refine congrArg ((if x = D then 1000000000 else 0) + ·) ?_
  refine sg_up (u0 := t) K ht (fun u hu hne => ?_) ?_
  · by_cases h : bt x u = false ∧ L < pc8 (x + 2 ^ u) ∧ ((s + 1 ≤ x + 2 ^ u ∧ x + 2 ^ u ≤ D) ∨ (x + 2 ^ u + 1 = s + 1 ∧ u < t))
    · rw [if_pos h, if_pos ⟨h.1, h.2.1, h.2.2.elim Or.inl (fun q => Or.inr ⟨q.1, by omega⟩)⟩]
    · rw [if_neg h, if_neg (fun q => h ⟨q.1, q.2.1, q.2.2.elim Or.inl (fun r => Or.inr ⟨r.1, by omega⟩)⟩)]
  · by_cases hb : bt x t = false
    · obtain ⟨b1, b2, b3, b4⟩ := bx1 x hx t (by omega) hb
      by_cases e : x + 2 ^ t = s
      · have hb2 : bt s t = true ∧ x = cl s t := by rw [← e]; exact ⟨b2, b3.symm⟩
        rw [if_pos ⟨hb, by rw [e]; exact hL, Or.inr ⟨by omega, by omega⟩⟩, if_neg (fun q => by have := q.2.2; omega), if_pos hb2, e, Nat.zero_add]
      · have hb2 : ¬ (bt s t = true ∧ x = cl s t) := fun q => e (by rw [q.2]; exact (bx2 s hs t (by omega) q.1).2.1)
        rw [if_neg hb2]
        by_cases l : L < pc8 (x + 2 ^ t) ∧ s + 1 ≤ x + 2 ^ t ∧ x + 2 ^ t ≤ D
        · rw [if_pos ⟨hb, l.1, Or.inl l.2⟩, if_pos ⟨hb, l.1, Or.inl l.2⟩, Nat.add_zero]
        · rw [if_neg (fun q => by have := q.2; omega), if_neg (fun q => by have := q.2; omega)]
    · have hb2 : ¬ (bt s t = true ∧ x = cl s t) := fun q => hb (by rw [q.2]; exact (bx2 s hs t (by omega) q.1).1)
      rw [if_neg (fun q => hb q.1), if_neg (fun q => hb q.1), if_neg hb2]
theorem P_next {w : Nat → Nat} {K D L s x : Nat} (hs : s ≤ D) : Pd w K D L (s + 1) K x = Pd w K D L s 0 x := by
  unfold Pd
  refine congrArg ((if x = D then 1000000000 else 0) + ·) (sg_c K (fun u hu => ?_))
  by_cases h : bt x u = false ∧ L < pc8 (x + 2 ^ u) ∧ ((s + 1 ≤ x + 2 ^ u ∧ x + 2 ^ u ≤ D) ∨ (x + 2 ^ u + 1 = s + 1 ∧ u < K))
  · rw [if_pos h, if_pos ⟨h.1, h.2.1, Or.inl (by omega)⟩]
  · rw [if_neg h, if_neg (fun q => h ⟨q.1, q.2.1, by have := q.2.2; omega⟩)]
theorem P_skip {w : Nat → Nat} {K D L s x : Nat} (hs : s ≤ D) (h0 : qp w K D s = 0 ∨ pc8 s ≤ L) : Pd w K D L (s + 1) 0 x = Pd w K D L s 0 x := by
  unfold Pd
  refine congrArg ((if x = D then 1000000000 else 0) + ·) (sg_c K (fun u hu => ?_))
  by_cases e : x + 2 ^ u = s
  · rw [if_neg (fun q => by have := q.2.2; omega)]
    rcases h0 with q | q
    · rw [e, q, Nat.zero_mul, Nat.zero_div]; split <;> rfl
    · rw [if_neg (fun r => by have := r.2.1; rw [e] at this; omega)]
  · by_cases h : bt x u = false ∧ L < pc8 (x + 2 ^ u) ∧ ((s + 1 ≤ x + 2 ^ u ∧ x + 2 ^ u ≤ D) ∨ (x + 2 ^ u + 1 = s + 1 ∧ u < 0))
    · rw [if_pos h, if_pos ⟨h.1, h.2.1, by have := h.2.2; omega⟩]
    · rw [if_neg h, if_neg (fun q => h ⟨q.1, q.2.1, by have := q.2.2; omega⟩)]
theorem P_start {w : Nat → Nat} {K D L x : Nat} : Pd w K D L (D + 1) 0 x = if x = D then 1000000000 else 0 := by
  unfold Pd
  rw [sg_0 K (fun u hu => if_neg (fun q => by have := q.2.2; omega)), Nat.add_zero]
/-- a set's part is whole when it is met -/
theorem P_met {w : Nat → Nat} {K D L s : Nat} (hK : K ≤ 8) (hD : D < 2 ^ K) (hs : s < 256) (hsD : s ≤ D) : Pd w K D L (s + 1) 0 s = if s = D then 1000000000 else if L ≤ pc8 s then qp w K D s else 0 := by
  have hp := pow8 hK
  unfold Pd
  by_cases eD : s = D
  · subst eD
    rw [if_pos rfl, if_pos rfl, sg_0 K (fun u hu => ?_)]
    rw [if_neg (fun q => by have := q.2.2; have := two_pos u; omega)]
  · rw [if_neg eD, if_neg eD, Nat.zero_add]
    by_cases hL : L ≤ pc8 s
    · rw [if_pos hL]
      by_cases hd : pc8 D ≤ pc8 s
      · -- no set above it has a part
        have e0 : qp w K D s = 0 := by
          unfold qp
          rw [show pc8 D - pc8 s = 0 by omega, Qp_0, if_neg eD]
        rw [e0, sg_0 K (fun u hu => ?_)]
        by_cases hc : bt s u = false ∧ L < pc8 (s + 2 ^ u) ∧ ((s + 1 ≤ s + 2 ^ u ∧ s + 2 ^ u ≤ D) ∨ (s + 2 ^ u + 1 = s + 1 ∧ u < 0))
        · obtain ⟨b1, b2, b3, b4⟩ := bx1 s hs u (by omega) hc.1
          rw [if_pos hc]
          have e1 : qp w K D (s + 2 ^ u) = 0 := by
            unfold qp
            rw [show pc8 D - pc8 (s + 2 ^ u) = 0 by omega, Qp_0, if_neg (fun q => by rw [q] at b4; omega)]
          rw [e1, Nat.zero_mul, Nat.zero_div]
        · rw [if_neg hc]
      · -- one level down
        obtain ⟨m, hm⟩ : ∃ m, pc8 D - pc8 s = m + 1 := ⟨pc8 D - pc8 s - 1, by omega⟩
        have eq : qp w K D s = Qp w K D (m + 1) s := by unfold qp; rw [hm]
        rw [eq, Qp_s]
        unfold Hs
        have eb : (if s = 0 then Qp w K D m 0 else 0) = 0 := by
          by_cases e : s = 0
          · subst e
            rw [if_pos rfl]
            apply Classical.byContradiction
            intro q
            have := (Q_supp hK hD m (by omega) 0 (by omega) q).1
            rw [pc8_0] at this hm
            omega
          · rw [if_neg e]
        show _ = (if s = 0 then Qp w K D m 0 else 0) + _
        rw [eb, Nat.zero_add]
        refine sg_c K (fun u hu => ?_)
        by_cases hb : bt s u = false
        · obtain ⟨b1, b2, b3, b4⟩ := bx1 s hs u (by omega) hb
          have h3 := bx3 K (by omega) s (by omega) u hu hb
          have := two_pos u
          have eq2 : qp w K D (s + 2 ^ u) = Qp w K D m (s + 2 ^ u) := by unfold qp; rw [show pc8 D - pc8 (s + 2 ^ u) = m by omega]
          rw [if_pos (show bt s u = false ∧ (s + 2 ^ u < 2 ^ K ∨ (s + 2 ^ u = 2 ^ K ∧ u < 0)) from ⟨hb, Or.inl h3⟩)]
          by_cases hle : s + 2 ^ u ≤ D
          · rw [if_pos ⟨hb, by omega, Or.inl ⟨by omega, hle⟩⟩, eq2]
          · rw [if_neg (fun q => by have := q.2.2; omega)]
            have e0 : Qp w K D m (s + 2 ^ u) = 0 := by
              apply Classical.byContradiction
              intro q
              exact hle (Q_supp hK hD m (by omega) _ b1 q).2
            rw [e0, Nat.zero_mul, Nat.zero_div]
        · rw [if_neg (fun q => hb q.1), if_neg (fun q => hb q.1)]
    · rw [if_neg hL, sg_0 K (fun u hu => ?_)]
      by_cases hb : bt s u = false
      · obtain ⟨b1, b2, b3, b4⟩ := bx1 s hs u (by omega) hb
        rw [if_neg (fun q => by have := q.2.1; omega)]
      · rw [if_neg (fun q => hb q.1)]
theorem qp_D {w : Nat → Nat} {K D : Nat} : qp w K D D = 1000000000 := by
  unfold qp
  rw [Nat.sub_self, Qp_0, if_pos rfl]
theorem lft_le (D n : Nat) : lft D n ≤ pc8 D := by unfold lft; omega
theorem P_met2 {w : Nat → Nat} {K D n s : Nat} (hK : K ≤ 8) (hD : D < 2 ^ K) (hs : s < 256) (hsD : s ≤ D) : Pd w K D (lft D n) (s + 1) 0 s = if lft D n ≤ pc8 s then qp w K D s else 0 := by
  rw [P_met hK hD hs hsD]
  by_cases e : s = D
  · subst e; rw [if_pos rfl, if_pos (lft_le s n), qp_D]
  · rw [if_neg e]
