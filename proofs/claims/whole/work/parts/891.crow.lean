/-! rows of partners as the reference counts them -/
def dg (n r p : Nat) : Nat := r / 7 ^ (n - 1 - p) % 7
theorem hr_dg {n r : Nat} (hr0 : r < 7 ^ n) : ∀ k, k ≤ n → hr (dg n r) k = r / 7 ^ (n - k)
  | 0, _ => by rw [Nat.sub_zero, Nat.div_eq_of_lt hr0]; rfl
  | k + 1, hk => by
    show hr (dg n r) k * 7 + dg n r k = _
    rw [hr_dg hr0 k (by omega)]
    unfold dg
    rw [show n - k = n - 1 - k + 1 by omega, show n - (k + 1) = n - 1 - k by omega, Nat.pow_succ, ← Nat.div_div_eq_div_mul]
    omega
theorem hr_div {g : Nat → Nat} {n : Nat} (hg : ∀ i, i < n → g i ≤ 6) : ∀ j, j ≤ n → hr g n / 7 ^ j = hr g (n - j)
  | 0, _ => by rw [Nat.pow_zero, Nat.div_one, Nat.sub_zero]
  | j + 1, hj => by
    rw [Nat.pow_succ, ← Nat.div_div_eq_div_mul, hr_div hg j (by omega), show n - j = n - (j + 1) + 1 by omega]
    show (hr g (n - (j + 1)) * 7 + g (n - (j + 1))) / 7 = _
    have := hg (n - (j + 1)) (by omega)
    omega
theorem dg_hr {g : Nat → Nat} {n p : Nat} (hg : ∀ i, i < n → g i ≤ 6) (hp : p < n) : dg n (hr g n) p = g p := by
  unfold dg
  rw [hr_div hg _ (by omega), show n - (n - 1 - p) = p + 1 by omega]
  show (hr g p * 7 + g p) % 7 = g p
  have := hg p hp
  omega
theorem hr_bd {g : Nat → Nat} : ∀ n, (∀ i, i < n → g i ≤ 6) → hr g n < 7 ^ n
  | 0, _ => by show 0 < 1; omega
  | n + 1, hg => by
    have ih := hr_bd n (fun i hi => hg i (by omega))
    have := hg n (by omega)
    rw [Nat.pow_succ]
    show hr g n * 7 + g n < _
    omega
theorem VM_c {n : Nat} {fb : Nat → Nat → Bool} {f g : Nat → Nat} (h : ∀ p, p < n → f p = g p) (hf : VM n fb f) : VM n fb g := fun p hp => by
  rcases hf p hp with q | ⟨q1, q2, q3, q4⟩
  · exact Or.inl (by rw [← h p hp]; exact q)
  · refine Or.inr ?_
    rw [← h p hp, ← h _ q1]
    exact ⟨q1, q2, q3, q4⟩
theorem cn_c {n : Nat} {f g : Nat → Nat} (h : ∀ p, p < n → f p = g p) : cn n f = cn n g := sg_c n (fun u hu => by rw [h u hu])
def bMost (n : Nat) : Option Nat → Option Nat
  | none => none
  | some x => some (cn n (dg n x))
noncomputable def rfB (n : Nat) (fb : Nat → Nat → Bool) (b : Option Nat) (r : Nat) : Option Nat := @ite _ (VM n fb (dg n r) ∧ (∀ x, b = some x → cn n (dg n x) < cn n (dg n r))) (Classical.propDecidable _) (some r) b
noncomputable def rfF (n : Nat) (fb : Nat → Nat → Bool) : Nat → Nat → Option Nat → Option Nat
  | 0, _, b => b
  | m + 1, r, b => rfF n fb m (r + 1) (rfB n fb b r)
theorem rfF_s (n : Nat) (fb : Nat → Nat → Bool) (m r : Nat) (b : Option Nat) : rfF n fb (m + 1) r b = rfF n fb m (r + 1) (rfB n fb b r) := rfl
theorem rfF_add {n : Nat} {fb : Nat → Nat → Bool} {k : Nat} : ∀ m r b, rfF n fb (m + k) r b = rfF n fb k (r + m) (rfF n fb m r b)
  | 0, r, b => by rw [Nat.zero_add]; rfl
  | m + 1, r, b => by
    rw [show m + 1 + k = m + k + 1 by omega, rfF_s, rfF_s, rfF_add m, show r + 1 + m = r + (m + 1) by omega]
theorem rfF_stay {n : Nat} {fb : Nat → Nat → Bool} {x : Nat} : ∀ m r, (∀ y, r ≤ y → y < r + m → VM n fb (dg n y) → cn n (dg n y) ≤ cn n (dg n x)) → rfF n fb m r (some x) = some x
  | 0, r, _ => rfl
  | m + 1, r, h => by
    rw [rfF_s]
    have e : rfB n fb (some x) r = some x := by
      unfold rfB
      rw [if_neg]
      intro z
      have h1 := h r (by omega) (by omega) z.1
      have h2 := z.2 x rfl
      omega
    rw [e]
    exact rfF_stay m (r + 1) (fun y h1 h2 => h y (by omega) (by omega))
theorem rfF_low {n : Nat} {fb : Nat → Nat → Bool} {c : Nat} : ∀ m r b, (∀ x, b = some x → cn n (dg n x) < c) → (∀ y, r ≤ y → y < r + m → VM n fb (dg n y) → cn n (dg n y) < c) → ∀ x, rfF n fb m r b = some x → cn n (dg n x) < c
  | 0, r, b, hb, _ => hb
  | m + 1, r, b, hb, h => by
    rw [rfF_s]
    refine rfF_low m (r + 1) _ (fun x hx => ?_) (fun y h1 h2 => h y (by omega) (by omega))
    unfold rfB at hx
    by_cases z : VM n fb (dg n r) ∧ (∀ x, b = some x → cn n (dg n x) < cn n (dg n r))
    · rw [if_pos z] at hx
      cases hx
      exact h r (by omega) (by omega) z.1
    · rw [if_neg z] at hx
      exact hb x hx
theorem rf_spec {n : Nat} {fb : Nat → Nat → Bool} {m r0 : Nat} (h0 : r0 < m) (hv : VM n fb (dg n r0)) (h1 : ∀ r, r < m → VM n fb (dg n r) → cn n (dg n r) ≤ cn n (dg n r0)) (h2 : ∀ r, r < r0 → VM n fb (dg n r) → cn n (dg n r) < cn n (dg n r0)) : rfF n fb m 0 none = some r0 := by
  have e := rfF_add (n := n) (fb := fb) (k := m - r0) r0 0 none
  rw [show r0 + (m - r0) = m by omega, Nat.zero_add, show m - r0 = m - r0 - 1 + 1 by omega, rfF_s] at e
  rw [e]
  have e2 : rfB n fb (rfF n fb r0 0 none) r0 = some r0 := by
    unfold rfB
    rw [if_pos]
    exact ⟨hv, rfF_low r0 0 none (fun x hx => by cases hx) (fun y _ hy => h2 y (by omega))⟩
  rw [e2]
  exact rfF_stay _ _ (fun y _ hy => h1 y (by omega))
abbrev gC (n : Nat) (fb : Nat → Nat → Bool) : Nat → Nat := grF n fb n (2 ^ n - 1) (fun _ => 6)
abbrev mC (n : Nat) (fb : Nat → Nat → Bool) : Nat := mk n fb n (2 ^ n - 1)
theorem GI_0 {n : Nat} {fb : Nat → Nat → Bool} (hn : n ≤ 6) : GI n fb (mC n fb) n (2 ^ n - 1) (fun _ => 6) := by
  have := pow8 (show n ≤ 8 by omega)
  refine ⟨by have := two_pos n; omega, fun i hi _ => ⟨by omega, rfl⟩, fun p _ => Or.inl rfl, ?_⟩
  unfold cn
  rw [sg_0 n (fun u _ => by simp), Nat.zero_add]
theorem cs_all {n : Nat} {f : Nat → Nat} (hn : n ≤ 6) : cs n f (2 ^ n - 1) = cn n f := sg_c n (fun u hu => by rw [bt_all n (by omega) u hu]; simp)
/-- the reference ends with the chosen row -/
theorem ref_best {n : Nat} {fb : Nat → Nat → Bool} (hn : n ≤ 6) (hsym : ∀ a b, fb a b = fb b a) : ∃ r0, rfF n fb (7 ^ n) 0 none = some r0 ∧ (∀ p, p < n → dg n r0 p = gC n fb p) ∧ cn n (dg n r0) = 2 * mC n fb := by
  have hp8 := pow8 (show n ≤ 8 by omega)
  obtain ⟨a1, a2, _⟩ := gr_all hn hsym n _ _ (Nat.le_refl _) (GI_0 (fb := fb) hn)
  have h6 : ∀ i, i < n → gC n fb i ≤ 6 := fun i hi => VM_6 hn a1 hi
  have hd : ∀ p, p < n → dg n (hr (gC n fb) n) p = gC n fb p := fun p hp => dg_hr h6 hp
  have hc : cn n (dg n (hr (gC n fb) n)) = 2 * mC n fb := by rw [cn_c hd]; exact a2
  have up : ∀ f, VM n fb f → cn n f ≤ 2 * mC n fb := fun f hf => by
    rw [← cs_all hn]
    exact mk_up hn hf n _ (Nat.le_refl _) (by have := two_pos n; omega) (fun i hi _ => by omega) (fun i hi _ h6 => by
      rcases hf i hi with q | q
      · exact absurd q h6
      · exact bt_all n (by omega) _ q.1)
  refine ⟨hr (gC n fb) n, rf_spec (hr_bd n h6) (VM_c (fun p hp => (hd p hp).symm) a1) (fun r _ hv => ?_) (fun r hrr hv => ?_), hd, hc⟩
  · rw [hc]; exact up _ hv
  · rw [hc]
    apply Classical.byContradiction
    intro z
    have e : cn n (dg n r) = 2 * mC n fb := by have := up _ hv; omega
    have hb := hr_bd n h6
    have := gr_first hn hsym hv n _ _ (Nat.le_refl _) (GI_0 (fb := fb) hn) (fun i hi hb => by rw [bt_all n (by omega) i hi] at hb; exact absurd hb (by simp)) (by rw [cs_all hn]; exact e)
    rw [hr_dg (show r < 7 ^ n by omega) n (Nat.le_refl _), Nat.sub_self, Nat.pow_zero, Nat.div_one] at this
    exact absurd hrr (Nat.not_lt.mpr this)
