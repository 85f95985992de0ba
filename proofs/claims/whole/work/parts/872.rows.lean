/-! rows copied: packs, notes, images -/
theorem st_eta {σ : g_St} {c : Nat} : g_sA σ c (σ.1 c) = σ := by
  unfold g_sA
  rw [g_up_id]
theorem sA_sA {σ : g_St} {c : Nat} {f g : Nat → Int32} : g_sA (g_sA σ c f) c g = g_sA σ c g := by
  unfold g_sA
  refine Prod.ext ?_ rfl
  funext j
  by_cases h : j = c
  · subst h; simp [va_up]
  · simp [va_up, h]
theorem sA_sI {σ : g_St} {c k : Nat} {v : Int32} {g : Nat → Int32} : g_sA (g_sI σ c k v) c g = g_sA σ c g := by
  unfold g_sA g_sI
  refine Prod.ext ?_ rfl
  funext j
  by_cases h : j = c
  · subst h; simp [va_up]
  · simp [va_up, h]
/-- the ints k .. n-1 of cell c' (from o' on) copied to cell c (from o on) -/
def cpS (σ : g_St) (c c' o o' k n : Nat) : g_St := g_sA σ c (fun j => if o + k ≤ j ∧ j < o + n then σ.1 c' (o' + (j - o)) else σ.1 c j)
theorem cpS_step {σ : g_St} {c c' o o' k n : Nat} (hc : c' ≠ c) (hk : k < n) : cpS (g_sI σ c (o + k) (σ.1 c' (o' + k))) c c' o o' (k + 1) n = cpS σ c c' o o' k n := by
  unfold cpS
  rw [sA_sI]
  refine congrArg (g_sA σ c) (funext fun j => ?_)
  rw [sI_o hc]
  by_cases e : j = o + k
  · subst e
    rw [if_neg (by omega), sI_k, if_pos (by omega), show o' + (o + k - o) = o' + k by omega]
  · rw [sI_n e]
    by_cases h : o + k ≤ j ∧ j < o + n
    · rw [if_pos h, if_pos (by omega)]
    · rw [if_neg h, if_neg (by omega)]
theorem cpS_end {σ : g_St} {c c' o o' n : Nat} : cpS σ c c' o o' n n = σ := by
  unfold cpS
  have : (fun j => if o + n ≤ j ∧ j < o + n then σ.1 c' (o' + (j - o)) else σ.1 c j) = σ.1 c := funext fun j => if_neg (by omega)
  rw [this, st_eta]
theorem cpS_o {σ : g_St} {c c' o o' k n j : Nat} (h : j ≠ c) : (cpS σ c c' o o' k n).1 j = σ.1 j := sA_o h
theorem cpS_2 {σ : g_St} {c c' o o' k n : Nat} : (cpS σ c c' o o' k n).2 = σ.2 := rfl
theorem cpS_at {σ : g_St} {c c' o o' n j : Nat} (h : j < n) : (cpS σ c c' o o' 0 n).1 c (o + j) = σ.1 c' (o' + j) := by
  unfold cpS
  rw [sA_s]
  show (if o + 0 ≤ o + j ∧ o + j < o + n then _ else _) = _
  rw [if_pos (by omega), show o' + (o + j - o) = o' + j by omega]
theorem cpS_n {σ : g_St} {c c' o o' n j : Nat} (h : j < o ∨ o + n ≤ j) : (cpS σ c c' o o' 0 n).1 c j = σ.1 c j := by
  unfold cpS
  rw [sA_s]
  show (if o + 0 ≤ j ∧ j < o + n then _ else _) = _
  rw [if_neg (by omega)]
theorem keepC_cp {σ : g_St} {c c' o o' k n : Nat} (h : 77 ≤ c) : keepC σ (cpS σ c c' o o' k n) := keepC_A h
/-- a moment's row does not read behind its 39 ints -/
theorem RN_ext {w : Tw} {v : Nw} {f g : Nat → Int32} (hw : TwOK w) (h : RN w v f) (e : ∀ j, j < 39 → g j = f j) : RN w v g := by
  have hP : tP w ≤ 6 := hw.1
  have hK : tK w ≤ 8 := hw.2.1
  obtain ⟨h1, h2, h3, h4, h5⟩ := h
  refine ⟨(e 0 (by omega)).trans h1, (e 1 (by omega)).trans h2, (e 2 (by omega)).trans h3, fun p hp => ⟨(e _ (by omega)).trans (h4 p hp).1, (e _ (by omega)).trans (h4 p hp).2⟩, fun t ht => ⟨(e _ (by omega)).trans (h5 t ht).1, (e _ (by omega)).trans (h5 t ht).2.1, (e _ (by omega)).trans (h5 t ht).2.2⟩⟩
theorem r_asides {σ : g_St} {N : Nat} (hN : 39 < N) : m_X11_asides N σ = some (cpS σ 86 81 0 0 0 39) := by
  unfold m_X11_asides
  have h : ∀ d k fu σ, k + d = 39 → d < fu → m_X11_asides_2 N fu (nI k) σ = some (cpS σ 86 81 0 0 k 39) := by
    intro d
    induction d with
    | zero =>
      intro k fu σ hk hf
      obtain ⟨fu, rfl⟩ : ∃ f, fu = f + 1 := ⟨fu - 1, by omega⟩
      unfold m_X11_asides_2
      rw [if_pos (show (39 : Int32) ≤ nI k from a_le (a := 39) k (by omega) (by omega)), show k = 39 by omega, cpS_end]
    | succ d ih =>
      intro k fu σ hk hf
      obtain ⟨fu, rfl⟩ : ∃ f, fu = f + 1 := ⟨fu - 1, by omega⟩
      unfold m_X11_asides_2 g_lt
      have i1 : g_in (nI k) 39 := a_in (by omega) (by omega)
      simp only [if_neg (show ¬ (39 : Int32) ≤ nI k from a_nle (a := 39) k (by omega) (by omega)), if_pos i1, nI_clamp (show k < 2 ^ 31 by omega), nI_1]
      rw [ih (k + 1) fu _ (by omega) (by omega), ← cpS_step (σ := σ) (c := 86) (c' := 81) (o := 0) (o' := 0) (k := k) (n := 39) (by omega) (by omega), Nat.zero_add]
  exact h 39 0 N σ (by omega) hN
theorem r_backs {σ : g_St} {N : Nat} (hN : 39 < N) : m_X11_backs N σ = some (cpS σ 81 86 0 0 0 39) := by
  unfold m_X11_backs
  have h : ∀ d k fu σ, k + d = 39 → d < fu → m_X11_backs_2 N fu (nI k) σ = some (cpS σ 81 86 0 0 k 39) := by
    intro d
    induction d with
    | zero =>
      intro k fu σ hk hf
      obtain ⟨fu, rfl⟩ : ∃ f, fu = f + 1 := ⟨fu - 1, by omega⟩
      unfold m_X11_backs_2
      rw [if_pos (show (39 : Int32) ≤ nI k from a_le (a := 39) k (by omega) (by omega)), show k = 39 by omega, cpS_end]
    | succ d ih =>
      intro k fu σ hk hf
      obtain ⟨fu, rfl⟩ : ∃ f, fu = f + 1 := ⟨fu - 1, by omega⟩
      unfold m_X11_backs_2 g_lt
      have i1 : g_in (nI k) 39 := a_in (by omega) (by omega)
      simp only [if_neg (show ¬ (39 : Int32) ≤ nI k from a_nle (a := 39) k (by omega) (by omega)), if_pos i1, nI_clamp (show k < 2 ^ 31 by omega), nI_1]
      rw [ih (k + 1) fu _ (by omega) (by omega), ← cpS_step (σ := σ) (c := 81) (c' := 86) (o := 0) (o' := 0) (k := k) (n := 39) (by omega) (by omega), Nat.zero_add]
  exact h 39 0 N σ (by omega) hN
theorem e39 (u k : Nat) : ((39 : Int32) * nI u) + nI k = nI (39 * u + k) := by
  show nI 39 * nI u + nI k = _
  rw [pk_mul, nI_add]
theorem e41 (u k : Nat) : ((((41 : Int32) * nI u) + (2 : Int32)) + nI k) = nI (41 * u + 2 + k) := by
  show (nI 41 * nI u + nI 2) + nI k = _
  rw [pk_mul, nI_add, nI_add]
theorem r_notes46 {σ : g_St} {N u : Nat} (hN : 39 < N) (hu : u < 30) (h9 : σ.1 77 9 = nI u) : m_X11_notes_46 N σ = some (g_sI (cpS σ 82 81 (39 * u) 0 0 39) 77 9 (nI (u + 1))) := by
  unfold m_X11_notes_46
  have h : ∀ d k fu σ, σ.1 77 9 = nI u → k + d = 39 → d < fu → m_X11_notes_48 N fu (nI k) σ = some (g_sI (cpS σ 82 81 (39 * u) 0 k 39) 77 9 (nI (u + 1))) := by
    intro d
    induction d with
    | zero =>
      intro k fu σ h9 hk hf
      obtain ⟨fu, rfl⟩ : ∃ f, fu = f + 1 := ⟨fu - 1, by omega⟩
      unfold m_X11_notes_48 g_lt
      rw [if_pos (show (39 : Int32) ≤ nI k from a_le (a := 39) k (by omega) (by omega)), show k = 39 by omega, cpS_end, h9, nI_1]
    | succ d ih =>
      intro k fu σ h9 hk hf
      obtain ⟨fu, rfl⟩ : ∃ f, fu = f + 1 := ⟨fu - 1, by omega⟩
      unfold m_X11_notes_48 g_lt
      have i1 : g_in (nI k) 39 := a_in (by omega) (by omega)
      have i2 : g_in (nI (39 * u + k)) 1170 := a_in (by omega) (by omega)
      simp only [if_neg (show ¬ (39 : Int32) ≤ nI k from a_nle (a := 39) k (by omega) (by omega)), if_pos i1, h9, e39, if_pos i2, nI_clamp (show k < 2 ^ 31 by omega), nI_clamp (show 39 * u + k < 2 ^ 31 by omega), nI_1]
      rw [ih (k + 1) fu _ (by simp (disch := omega) only [sI_o, sI_k, sI_n, sA_o, sA_s, sI_2, sA_2, sL_1, sL_o]; exact h9) (by omega) (by omega), ← cpS_step (σ := σ) (c := 82) (c' := 81) (o := 39 * u) (o' := 0) (k := k) (n := 39) (by omega) (by omega), Nat.zero_add]
  exact h 39 0 N σ h9 (by omega) hN
def shf (f : Nat → Int32) (k : Nat) : Nat → Int32 := fun j => if k ≤ j + 39 ∧ j < 1131 then f (j + 39) else f j
theorem r_notes {σ : g_St} {N u : Nat} (hN : 1170 < N) (hu : u ≤ 30) (h9 : σ.1 77 9 = nI u) : m_X11_notes N σ = some (if u = 30 then g_sI (cpS (g_sI (g_sA σ 82 (shf (σ.1 82) 39)) 77 9 (nI 29)) 82 81 (39 * 29) 0 0 39) 77 9 (nI 30) else g_sI (cpS σ 82 81 (39 * u) 0 0 39) 77 9 (nI (u + 1))) := by
  unfold m_X11_notes
  by_cases h30 : u = 30
  · subst h30
    rw [h9, if_pos (show nI 30 = (30 : Int32) from rfl), if_pos rfl]
    have h : ∀ d k fu σ, 39 ≤ k → k + d = 1170 → d < fu → m_X11_notes_12 N fu (nI k) σ = m_X11_notes_46 N (g_sI (g_sA σ 82 (shf (σ.1 82) k)) 77 9 (nI 29)) := by
      intro d
      induction d with
      | zero =>
        intro k fu σ h39 hk hf
        obtain ⟨fu, rfl⟩ : ∃ f, fu = f + 1 := ⟨fu - 1, by omega⟩
        unfold m_X11_notes_12 g_lt
        have e : shf (σ.1 82) k = σ.1 82 := funext fun j => by unfold shf; rw [if_neg (by omega)]
        rw [if_pos (show (1170 : Int32) ≤ nI k from a_le (a := 1170) k (by omega) (by omega)), e, st_eta]
        rfl
      | succ d ih =>
        intro k fu σ h39 hk hf
        obtain ⟨fu, rfl⟩ : ∃ f, fu = f + 1 := ⟨fu - 1, by omega⟩
        unfold m_X11_notes_12 g_lt
        have e9 : nI k - (39 : Int32) = nI (k - 39) := pk_sub (b := 39) (by omega)
        have i1 : g_in (nI k) 1170 := a_in (by omega) (by omega)
        have i2 : g_in (nI (k - 39)) 1170 := a_in (by omega) (by omega)
        simp only [if_neg (show ¬ (1170 : Int32) ≤ nI k from a_nle (a := 1170) k (by omega) (by omega)), if_pos i1, e9, if_pos i2, nI_clamp (show k < 2 ^ 31 by omega), nI_clamp (show k - 39 < 2 ^ 31 by omega), nI_1]
        rw [ih (k + 1) fu _ (by omega) (by omega) (by omega), sA_sI]
        refine congrArg (fun f => m_X11_notes_46 N (g_sI (g_sA σ 82 f) 77 9 (nI 29))) (funext fun j => ?_)
        unfold shf
        by_cases e : j = k - 39
        · subst e
          rw [if_neg (by omega), sI_k, if_pos (by omega), show k - 39 + 39 = k by omega]
        · rw [sI_n e]
          by_cases hh : k ≤ j + 39 ∧ j < 1131
          · rw [if_pos hh, if_pos (by omega), sI_n (by omega)]
          · rw [if_neg hh, if_neg (by omega)]
    have h2 := h 1131 39 N σ (by omega) (by omega) (by omega)
    rw [show (39 : Int32) = nI 39 from rfl, h2, r_notes46 (u := 29) (by omega) (by omega) sI_k]
  · rw [h9, if_neg (show ¬ nI u = (30 : Int32) from a_ne 30 h30 (by omega) (by omega)), if_neg h30, r_notes46 (by omega) (by omega) h9]
