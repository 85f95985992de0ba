/-! rows of draws that fit the candles: the tree, and the rows in their order -/
abbrev Ac : Type := Nat × Nat × Nat
def nt (A : Ac) (r s : Nat) : Ac := (A.1 + 1, if A.1 = 0 then r else A.2.1, A.2.2 &&& s)
def fitsV (P L : Nat) (T : Nat → Nat) (v : Nw) : Prop := ∀ p, p < P → bt L p = true → nA v p = T p
noncomputable def lf (P L : Nat) (T : Nat → Nat) (v : Nw) (A : Ac) (r s : Nat) : Ac := @ite _ (fitsV P L T v) (Classical.propDecidable _) (nt A r s) A
theorem lf_t {P L : Nat} {T : Nat → Nat} {v : Nw} {A : Ac} {r s : Nat} (h : fitsV P L T v) : lf P L T v A r s = nt A r s := if_pos h
theorem lf_f {P L : Nat} {T : Nat → Nat} {v : Nw} {A : Ac} {r s : Nat} (h : ¬ fitsV P L T v) : lf P L T v A r s = A := if_neg h
def fd (F : Nat → Ac → Ac) : Nat → Nat → Ac → Ac
  | 0, _, A => A
  | m + 1, t, A => fd F m (t + 1) (F t A)
theorem fd_s (F : Nat → Ac → Ac) (m t : Nat) (A : Ac) : fd F (m + 1) t A = fd F m (t + 1) (F t A) := rfl
theorem fd_add {F : Nat → Ac → Ac} {n : Nat} : ∀ m t A, fd F (m + n) t A = fd F n (t + m) (fd F m t A)
  | 0, t, A => by rw [Nat.zero_add]; rfl
  | m + 1, t, A => by rw [show m + 1 + n = m + n + 1 by omega, fd_s, fd_s, fd_add m, show t + 1 + m = t + (m + 1) by omega]
theorem fd_c {F G : Nat → Ac → Ac} : ∀ m t A, (∀ x B, t ≤ x → x < t + m → F x B = G x B) → fd F m t A = fd G m t A
  | 0, _, _, _ => rfl
  | m + 1, t, A, h => by rw [fd_s, fd_s, h t A (by omega) (by omega), fd_c m (t + 1) _ (fun x B h1 h2 => h x B (by omega) (by omega))]
theorem fd_id {F : Nat → Ac → Ac} : ∀ m t A, (∀ x B, t ≤ x → x < t + m → F x B = B) → fd F m t A = A
  | 0, _, _, _ => rfl
  | m + 1, t, A, h => by rw [fd_s, h t A (by omega) (by omega), fd_id m (t + 1) _ (fun x B h1 h2 => h x B (by omega) (by omega))]
theorem fd_bl {F : Nat → Ac → Ac} {c r0 : Nat} : ∀ k t A, fd F (k * c) (r0 + t * c) A = fd (fun x B => fd F c (r0 + x * c) B) k t A
  | 0, t, A => by rw [Nat.zero_mul]; rfl
  | k + 1, t, A => by
    rw [fd_s, Nat.succ_mul, Nat.add_comm (k * c) c, fd_add, show r0 + t * c + c = r0 + (t + 1) * c by rw [Nat.succ_mul]; omega, fd_bl k]
noncomputable def dfs (w : Tw) (L : Nat) (T : Nat → Nat) : Nat → Nw → Nat → Nat → Ac → Ac
  | 0, v, r, s, A => lf (tP w) L T v A r s
  | j + 1, v, r, s, A => fd (fun t B => if bt (nS v) t = true then dfs w L T j (drawn w (tR w) v t) (r * tK w + t) (st1 s t) B else B) (tK w) 0 A
theorem dfs_s (w : Tw) (L : Nat) (T : Nat → Nat) (j : Nat) (v : Nw) (r s : Nat) (A : Ac) : dfs w L T (j + 1) v r s A = fd (fun t B => if bt (nS v) t = true then dfs w L T j (drawn w (tR w) v t) (r * tK w + t) (st1 s t) B else B) (tK w) 0 A := rfl
/-- one row, run from its start -/
def rn (w : Tw) : Nat → Nw → Nat → Nat → Option (Nw × Nat)
  | 0, v, s, _ => some (v, s)
  | j + 1, v, s, row => if bt (nS v) (row / tK w ^ j % tK w) = true then rn w j (drawn w (tR w) v (row / tK w ^ j % tK w)) (st1 s (row / tK w ^ j % tK w)) row else none
theorem rn_s (w : Tw) (j : Nat) (v : Nw) (s row : Nat) : rn w (j + 1) v s row = if bt (nS v) (row / tK w ^ j % tK w) = true then rn w j (drawn w (tR w) v (row / tK w ^ j % tK w)) (st1 s (row / tK w ^ j % tK w)) row else none := rfl
noncomputable def lO (w : Tw) (L : Nat) (T : Nat → Nat) (row : Nat) (A : Ac) : Option (Nw × Nat) → Ac
  | none => A
  | some x => lf (tP w) L T x.1 A row x.2
noncomputable def stR (w : Tw) (L : Nat) (T : Nat → Nat) (j : Nat) (v : Nw) (s : Nat) (row : Nat) (A : Ac) : Ac := lO w L T row A (rn w j v s row)
theorem dk1 {K r t : Nat} (ht : t < K) : (r * K + t) / K = r := by rw [Nat.add_comm, Nat.add_mul_div_right _ _ (by omega), Nat.div_eq_of_lt ht, Nat.zero_add]
theorem dk2 {K r t : Nat} (ht : t < K) : (r * K + t) % K = t := by rw [Nat.add_comm, Nat.add_mul_mod_self_right, Nat.mod_eq_of_lt ht]
theorem ref_dfs {w : Tw} {L : Nat} {T : Nat → Nat} : ∀ j v r s A, fd (stR w L T j v s) (tK w ^ j) (r * tK w ^ j) A = dfs w L T j v r s A
  | 0, v, r, s, A => by rw [Nat.pow_zero, Nat.mul_one]; rfl
  | j + 1, v, r, s, A => by
    rw [dfs_s, Nat.pow_succ, Nat.mul_comm (tK w ^ j) (tK w)]
    have e := fd_bl (F := stR w L T (j + 1) v s) (c := tK w ^ j) (r0 := r * (tK w * tK w ^ j)) (tK w) 0 A
    rw [Nat.zero_mul] at e
    refine Eq.trans e ?_
    refine fd_c _ _ _ (fun t B _ ht => ?_)
    have ht' : t < tK w := by omega
    have es : r * (tK w * tK w ^ j) + t * tK w ^ j = (r * tK w + t) * tK w ^ j := by rw [Nat.add_mul, Nat.mul_assoc]
    rw [es]
    have hd : ∀ x, (r * tK w + t) * tK w ^ j ≤ x → x < (r * tK w + t) * tK w ^ j + tK w ^ j → x / tK w ^ j % tK w = t := fun x h1 h2 => by
      have e1 : x / tK w ^ j = r * tK w + t := by
        obtain ⟨y, hy⟩ : ∃ y, x = (r * tK w + t) * tK w ^ j + y := ⟨x - (r * tK w + t) * tK w ^ j, by omega⟩
        rw [hy]; exact dk1 (by omega)
      rw [e1]; exact dk2 ht'
    by_cases hb : bt (nS v) t = true
    · rw [if_pos hb, ← ref_dfs j]
      refine fd_c _ _ _ (fun x C h1 h2 => ?_)
      unfold stR
      rw [rn_s, hd x h1 h2, if_pos hb]
    · rw [if_neg hb]
      refine fd_id _ _ _ (fun x C h1 h2 => ?_)
      unfold stR
      rw [rn_s, hd x h1 h2, if_neg hb]
      rfl
/-! what is cut off leads nowhere -/
theorem aged_ge (a : Nat) : a ≤ aged a ∧ aged a ≤ a + 1 := by unfold aged; split <;> omega
theorem nA_dr (w : Tw) (R : Nat) (v : Nw) (t p : Nat) : nA (drawn w R v t) p = if p = who v t then aged (nA v p) else nA v p := by
  show va_up (nA v) (who v t) (aged (nA v (who v t))) p = _
  by_cases e : p = who v t
  · rw [if_pos e, e, g_up_s]
  · rw [if_neg e, g_up_n _ _ e]
theorem dfs_1 {w : Tw} {L : Nat} {T : Nat → Nat} {p : Nat} (hp : p < tP w) (hb : bt L p = true) : ∀ j v r s A, T p < nA v p → dfs w L T j v r s A = A
  | 0, v, r, s, A, h => lf_f (fun z => by have := z p hp hb; omega)
  | j + 1, v, r, s, A, h => by
    rw [dfs_s]
    refine fd_id _ _ _ (fun t B _ _ => ?_)
    by_cases hb' : bt (nS v) t = true
    · rw [if_pos hb']
      refine dfs_1 hp hb j _ _ _ _ ?_
      rw [nA_dr]
      have := aged_ge (nA v p)
      split <;> omega
    · rw [if_neg hb']
def msV (P L : Nat) (T : Nat → Nat) (v : Nw) : Nat := sg P (fun p => if bt L p = true then T p - nA v p else 0)
def leV (P L : Nat) (T : Nat → Nat) (v : Nw) : Prop := ∀ p, p < P → bt L p = true → nA v p ≤ T p
theorem fit_ms {P L : Nat} {T : Nat → Nat} {v : Nw} (h : fitsV P L T v) : msV P L T v = 0 := sg_0 P (fun u hu => by
  by_cases b : bt L u = true
  · rw [if_pos b, h u hu b, Nat.sub_self]
  · rw [if_neg b])
theorem ms_fit {P L : Nat} {T : Nat → Nat} {v : Nw} (h : leV P L T v) (h0 : msV P L T v = 0) : fitsV P L T v := fun p hp b => by
  have h1 := sg_mem (F := fun p => if bt L p = true then T p - nA v p else 0) P hp
  rw [show sg P (fun p => if bt L p = true then T p - nA v p else 0) = 0 from h0] at h1
  rw [if_pos b] at h1
  have := h p hp b
  omega
theorem sg_le1 {F G : Nat → Nat} {q : Nat} : ∀ n, (∀ u, u < n → u ≠ q → F u = G u) → F q ≤ G q + 1 → sg n F ≤ sg n G + 1
  | 0, _, _ => by show 0 ≤ 0 + 1; omega
  | n + 1, h1, h2 => by
    rw [sg_s, sg_s]
    by_cases e : n = q
    · subst e
      rw [sg_c n (fun u hu => h1 u (by omega) (by omega))]
      omega
    · have := sg_le1 n (fun u hu => h1 u (by omega)) h2
      have := h1 n (by omega) e
      omega
theorem ms_dr {P L : Nat} {T : Nat → Nat} {v : Nw} {w : Tw} {R t : Nat} : msV P L T v ≤ msV P L T (drawn w R v t) + 1 := by
  unfold msV
  refine sg_le1 (q := who v t) P (fun u hu hne => ?_) ?_
  · rw [nA_dr, if_neg hne]
  · rw [nA_dr, if_pos rfl]
    have := aged_ge (nA v (who v t))
    split <;> omega
theorem dfs_2 {w : Tw} {L : Nat} {T : Nat → Nat} : ∀ j v r s A, j < msV (tP w) L T v → dfs w L T j v r s A = A
  | 0, v, r, s, A, h => lf_f (fun z => by have := fit_ms z; omega)
  | j + 1, v, r, s, A, h => by
    rw [dfs_s]
    refine fd_id _ _ _ (fun t B _ _ => ?_)
    by_cases hb' : bt (nS v) t = true
    · rw [if_pos hb']
      have := ms_dr (P := tP w) (L := L) (T := T) (v := v) (w := w) (R := tR w) (t := t)
      exact dfs_2 j _ _ _ _ (by omega)
    · rw [if_neg hb']
/-- the missing years behind a draw -/
theorem ms_lit {P L : Nat} {T : Nat → Nat} {v : Nw} {w : Tw} {R t : Nat} (hq : who v t < P) (hb : bt L (who v t) = true) (ht : aged (nA v (who v t)) ≤ T (who v t)) : msV P L T v = msV P L T (drawn w R v t) + (aged (nA v (who v t)) - nA v (who v t)) := by
  unfold msV
  refine sg_up (u0 := who v t) P hq (fun u hu hne => ?_) ?_
  · rw [nA_dr, if_neg hne]
  · rw [nA_dr, if_pos rfl, if_pos hb, if_pos hb]
    have := aged_ge (nA v (who v t))
    omega
theorem ms_dark {P L : Nat} {T : Nat → Nat} {v : Nw} {w : Tw} {R t : Nat} (hb : ¬ bt L (who v t) = true) : msV P L T (drawn w R v t) = msV P L T v := by
  unfold msV
  refine sg_c P (fun u hu => ?_)
  rw [nA_dr]
  by_cases e : u = who v t
  · rw [e, if_neg hb, if_neg hb]
  · rw [if_neg e]
theorem le_dr {P L : Nat} {T : Nat → Nat} {v : Nw} {w : Tw} {R t : Nat} (h : leV P L T v) (ht : bt L (who v t) = true → aged (nA v (who v t)) ≤ T (who v t)) : leV P L T (drawn w R v t) := fun p hp b => by
  rw [nA_dr]
  by_cases e : p = who v t
  · rw [if_pos e, e]; rw [e] at b; exact ht b
  · rw [if_neg e]; exact h p hp b
theorem fd_cnt {F : Nat → Ac → Ac} {c : Nat} : ∀ m t A, (∀ x B, t ≤ x → x < t + m → (F x B).1 ≤ B.1 + c) → (fd F m t A).1 ≤ A.1 + m * c
  | 0, t, A, _ => by rw [Nat.zero_mul]; exact Nat.le_refl _
  | m + 1, t, A, h => by
    rw [fd_s, Nat.succ_mul]
    have h1 := fd_cnt m (t + 1) (F t A) (fun x B h1 h2 => h x B (by omega) (by omega))
    have h2 := h t A (by omega) (by omega)
    omega
theorem dfs_cnt {w : Tw} {L : Nat} {T : Nat → Nat} : ∀ j v r s A, (dfs w L T j v r s A).1 ≤ A.1 + tK w ^ j
  | 0, v, r, s, A => by
    show (lf (tP w) L T v A r s).1 ≤ A.1 + 1
    by_cases h : fitsV (tP w) L T v
    · rw [lf_t h]; exact Nat.le_refl _
    · rw [lf_f h]; omega
  | j + 1, v, r, s, A => by
    rw [dfs_s, Nat.pow_succ, Nat.mul_comm (tK w ^ j) (tK w)]
    refine fd_cnt _ _ _ (fun x B _ _ => ?_)
    split
    · exact dfs_cnt j _ _ _ B
    · omega
