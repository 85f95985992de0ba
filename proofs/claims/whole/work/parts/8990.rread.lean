/-! the reference reads a town -/
theorem nsR_snoc {x : Nat → Nat} {n c P : Nat} : ∀ j k a f, nsR x n c P (j + 1) k a f = (match nsR x n c P j k a f with
    | .inl e => .inl e
    | .inr (g, e) => (match num1 x n (rlo c (k + j)) (rhi c P (k + j)) e with
      | .inl z => .inl z
      | .inr (v, e2) => .inr (va_up g (k + j) v, e2)))
  | 0, k, a, f => by
    show nsR x n c P 1 k a f = (match num1 x n (rlo c k) (rhi c P k) a with
      | Sum.inl z => Sum.inl z
      | Sum.inr (v, e2) => Sum.inr (va_up f k v, e2))
    unfold nsR
    cases num1 x n (rlo c k) (rhi c P k) a with
    | inl z => rfl
    | inr z => obtain ⟨v, e⟩ := z; rfl
  | j + 1, k, a, f => by
    have e1 : ∀ j, nsR x n c P (j + 1) k a f = (match num1 x n (rlo c k) (rhi c P k) a with
      | .inl e => .inl e
      | .inr (v, e) => nsR x n c P j (k + 1) e (va_up f k v)) := fun j => rfl
    rw [e1 (j + 1), e1 j]
    cases num1 x n (rlo c k) (rhi c P k) a with
    | inl z => rfl
    | inr z =>
      obtain ⟨v, e⟩ := z
      dsimp only
      rw [nsR_snoc j (k + 1) e (va_up f k v), show k + 1 + j = k + (j + 1) by omega]
def outM : Sum (Nat × Nat) ((Nat → Nat) × Nat) → Sum (Nat × Nat) Nat
  | .inl e => .inl e
  | .inr (_, a) => .inr a
def RM (n : Nat) : Sum (Nat × Nat) Nat → g_St → Prop
  | .inl (k, p), σ => σ.1 77 5 = nI k ∧ σ.1 77 6 = nI p ∧ 1 ≤ k ∧ k ≤ 3
  | .inr a, σ => σ.1 77 4 = nI a ∧ σ.1 77 5 = 0 ∧ σ.1 77 6 = -1 ∧ a ≤ n
def LT (x : Nat → Nat) (n : Nat) (σ : g_St) : Prop := σ.1 77 3 = nI n ∧ ∀ i, i < n → σ.1 80 i = nI (x i)
def F7 (σ τ : g_St) : Prop := (∀ c, c ≠ 77 → τ.1 c = σ.1 c) ∧ (∀ j, j ≠ 4 → j ≠ 5 → j ≠ 6 → τ.1 77 j = σ.1 77 j) ∧ τ.2 = σ.2
theorem F7_rf (σ : g_St) : F7 σ σ := ⟨fun _ _ => rfl, fun _ _ _ _ => rfl, rfl⟩
theorem F7_tr {σ τ υ : g_St} (h1 : F7 σ τ) (h2 : F7 τ υ) : F7 σ υ := ⟨fun c hc => (h2.1 c hc).trans (h1.1 c hc), fun j a b c => (h2.2.1 j a b c).trans (h1.2.1 j a b c), h2.2.2.trans h1.2.2⟩
theorem F7_I {σ0 σ : g_St} {j : Nat} {v : Int32} (h : F7 σ0 σ) (hj : j = 4 ∨ j = 5 ∨ j = 6) : F7 σ0 (g_sI σ 77 j v) := ⟨fun c hc => by rw [sI_o hc]; exact h.1 c hc, fun i a b c => by rw [sI_n (by omega)]; exact h.2.1 i a b c, by rw [sI_2]; exact h.2.2⟩
theorem LT_k {x : Nat → Nat} {n : Nat} {σ τ : g_St} (h : LT x n σ) (k : F7 σ τ) : LT x n τ := ⟨by rw [k.2.1 3 (by omega) (by omega) (by omega)]; exact h.1, fun i hi => by rw [k.1 80 (by omega)]; exact h.2 i hi⟩
theorem r_here0 {x : Nat → Nat} {n N : Nat} (hn : n ≤ 250) (hx8 : ∀ i, i < n → x i < 256) : ∀ m a fu σ, n - a ≤ m → a ≤ n → m < fu → LT x n σ → σ.1 77 4 = nI a → ∃ τ, m_X11_here_0 N fu σ = some (if skp x n a < n then nI (x (skp x n a)) else -1, τ) ∧ τ.1 77 4 = nI (skp x n a) ∧ (∀ j, j ≠ 4 → τ.1 77 j = σ.1 77 j) ∧ (∀ c, c ≠ 77 → τ.1 c = σ.1 c) ∧ τ.2 = σ.2 := by
  have e38 : ∀ a σ, a ≤ n → LT x n σ → σ.1 77 4 = nI a → m_X11_here_38 N σ = some (if a < n then nI (x a) else -1, σ) := fun a σ ha hL h4 => by
    unfold m_X11_here_38
    rw [hL.1, h4]
    by_cases q : a < n
    · rw [if_neg (a_nle (a := n) a q (by omega)), if_pos (a_in (by omega) (by omega)), nI_clamp (by omega), hL.2 a q, if_pos q]
    · rw [if_pos (a_le a (by omega) (by omega)), if_neg q]
  intro m
  induction m with
  | zero =>
    intro a fu σ h ha hf hL h4
    obtain ⟨fu, rfl⟩ : ∃ f, fu = f + 1 := ⟨fu - 1, by omega⟩
    rw [skp_n (show ¬ (a < n ∧ x a = 32) by omega)]
    refine ⟨σ, ?_, h4, fun j _ => rfl, fun c _ => rfl, rfl⟩
    unfold m_X11_here_0
    rw [hL.1, h4, if_pos (a_le a (by omega) (by omega)), e38 a σ ha hL h4]
  | succ m ih =>
    intro a fu σ h ha hf hL h4
    obtain ⟨fu, rfl⟩ : ∃ f, fu = f + 1 := ⟨fu - 1, by omega⟩
    by_cases c : a < n ∧ x a = 32
    · rw [skp_y c.1 c.2]
      obtain ⟨τ, t1, t2, t3, t4, t5⟩ := ih (a + 1) fu (g_sI σ 77 4 (nI (a + 1))) (by omega) (by omega) (by omega) ⟨by simp (disch := omega) only [sI_o, sI_k, sI_n, sA_o, sA_s, sI_2, sA_2, sL_1, sL_o]; exact hL.1, fun i hi => by simp (disch := omega) only [sI_o, sI_k, sI_n, sA_o, sA_s, sI_2, sA_2, sL_1, sL_o]; exact hL.2 i hi⟩ (by simp (disch := omega) only [sI_o, sI_k, sI_n, sA_o, sA_s, sI_2, sA_2, sL_1, sL_o])
      refine ⟨τ, ?_, t2, fun j hj => by rw [t3 j hj]; simp (disch := omega) only [sI_o, sI_k, sI_n, sA_o, sA_s, sI_2, sA_2, sL_1, sL_o], fun c hc => by rw [t4 c hc]; simp (disch := omega) only [sI_o, sI_k, sI_n, sA_o, sA_s, sI_2, sA_2, sL_1, sL_o], by rw [t5]; rfl⟩
      rw [← t1]
      conv => lhs; unfold m_X11_here_0 g_lt
      rw [hL.1, h4, if_neg (a_nle (a := n) a c.1 (by omega)), if_pos (a_in (by omega) (by omega)), nI_clamp (by omega), hL.2 a c.1, c.2, if_pos (show nI 32 = (32 : Int32) from rfl), nI_1]
    · rw [skp_n c]
      refine ⟨σ, ?_, h4, fun j _ => rfl, fun c _ => rfl, rfl⟩
      unfold m_X11_here_0
      rw [e38 a σ ha hL h4, hL.1, h4]
      by_cases q : a < n
      · rw [if_neg (a_nle (a := n) a q (by omega)), if_pos (a_in (by omega) (by omega)), nI_clamp (by omega), hL.2 a q, if_neg (show ¬ nI (x a) = (32 : Int32) from a_ne 32 (fun z => c ⟨q, z⟩) (by have := hx8 a q; omega) (by omega))]
      · rw [if_pos (a_le a (by omega) (by omega))]
theorem r_here {x : Nat → Nat} {n N a : Nat} {σ : g_St} (hn : n ≤ 250) (hN : 300 < N) (hx8 : ∀ i, i < n → x i < 256) (ha : a ≤ n) (hL : LT x n σ) (h4 : σ.1 77 4 = nI a) : ∃ τ, m_X11_here N σ = some (if skp x n a < n then nI (x (skp x n a)) else -1, τ) ∧ τ.1 77 4 = nI (skp x n a) ∧ (∀ j, j ≠ 4 → τ.1 77 j = σ.1 77 j) ∧ (∀ c, c ≠ 77 → τ.1 c = σ.1 c) ∧ τ.2 = σ.2 := by
  unfold m_X11_here
  exact r_here0 hn hx8 (n - a) a N σ (Nat.le_refl _) ha (by omega) hL h4
theorem r_fault0 {q p : Int32} {σ : g_St} (h : σ.1 77 5 = 0) : m_X11_faults q p σ = some (g_sI (g_sI σ 77 5 q) 77 6 p) := by
  unfold m_X11_faults g_lt
  rw [if_pos h]
theorem in_dig {c : Nat} {σ : g_St} (hc : c < 256) : m_X11_in (nI c).toInt64 (48 : Int64) (57 : Int64) σ = some (if isD c = true then 1 else 0, σ) := by
  rw [show (48 : Int64) = (nI 48).toInt64 by decide, show (57 : Int64) = (nI 57).toInt64 by decide, r_inR]
  by_cases q : isD c = true
  · have q' := q
    unfold isD at q'
    simp only [decide_eq_true_eq] at q'
    rw [if_pos q, if_pos ⟨a_le c q'.1 (by omega), a_le 57 q'.2 (by omega)⟩]
  · have q' := q
    unfold isD at q'
    simp only [decide_eq_true_eq] at q'
    rw [if_neg q, if_neg]
    intro z
    refine q' ⟨?_, ?_⟩
    · apply Classical.byContradiction
      intro w
      exact a_nle c (by omega) (by omega) z.1
    · apply Classical.byContradiction
      intro w
      exact a_nle 57 (by omega) (by omega) z.2
theorem in_none {σ : g_St} : m_X11_in (-1 : Int32).toInt64 (48 : Int64) (57 : Int64) σ = some (0, σ) := by
  rw [show (48 : Int64) = (nI 48).toInt64 by decide, show (57 : Int64) = (nI 57).toInt64 by decide, r_inR, if_neg (by decide)]
theorem r_n45 {x : Nat → Nat} {n N b : Nat} {x1 x2 : Int32} (hn : n ≤ 250) (hx8 : ∀ i, i < n → x i < 256) : ∀ m i v fu σ, dge x n i - i = m → b ≤ i → i ≤ n → m < fu → LT x n σ → σ.1 77 4 = nI i → ∃ τ, m_X11_number_45 N fu x1 x2 (nI b) (nI v) σ = m_X11_number_127 N x1 x2 (nI b) (nI (vR x b m i v)) τ ∧ τ.1 77 4 = nI (dge x n i) ∧ (∀ j, j ≠ 4 → τ.1 77 j = σ.1 77 j) ∧ (∀ c, c ≠ 77 → τ.1 c = σ.1 c) ∧ τ.2 = σ.2 := by
  intro m
  induction m with
  | zero =>
    intro i v fu σ hm hb hi hf hL h4
    obtain ⟨fu, rfl⟩ : ∃ f, fu = f + 1 := ⟨fu - 1, by omega⟩
    have hno : ¬ (i < n ∧ isD (x i) = true) := fun c => by
      obtain ⟨d1, _, _, _⟩ := dge_p (x := x) (n := n) _ (i + 1) (Nat.le_refl _) (by omega)
      rw [dge_y c.1 c.2] at hm
      omega
    rw [dge_n hno]
    refine ⟨σ, ?_, h4, fun j _ => rfl, fun c _ => rfl, rfl⟩
    unfold m_X11_number_45
    rw [hL.1, h4]
    by_cases q : i < n
    · rw [if_neg (a_nle (a := n) i q (by omega)), if_pos (a_in (by omega) (by omega)), nI_clamp (by omega), hL.2 i q, in_dig (hx8 i q), Option.bind_some]
      dsimp only
      rw [if_neg (fun z => hno ⟨q, z⟩), if_pos rfl]
      rfl
    · rw [if_pos (a_le i (by omega) (by omega))]
      rfl
  | succ m ih =>
    intro i v fu σ hm hb hi hf hL h4
    obtain ⟨fu, rfl⟩ : ∃ f, fu = f + 1 := ⟨fu - 1, by omega⟩
    have hyes : i < n ∧ isD (x i) = true := by
      apply Classical.byContradiction
      intro c
      rw [dge_n c] at hm
      omega
    obtain ⟨d1, _, _, _⟩ := dge_p (x := x) (n := n) _ (i + 1) (Nat.le_refl _) (by omega)
    have hdd := hyes.2
    unfold isD at hdd
    simp only [decide_eq_true_eq] at hdd
    rw [dge_y hyes.1 hyes.2] at hm ⊢
    obtain ⟨τ, t1, t2, t3, t4, t5⟩ := ih (i + 1) (if 2 < i - b then 9999 else 10 * v + (x i - 48)) fu (g_sI σ 77 4 (nI (i + 1))) (by omega) (by omega) (by omega) (by omega) ⟨by simp (disch := omega) only [sI_o, sI_k, sI_n, sA_o, sA_s, sI_2, sA_2, sL_1, sL_o]; exact hL.1, fun i hi => by simp (disch := omega) only [sI_o, sI_k, sI_n, sA_o, sA_s, sI_2, sA_2, sL_1, sL_o]; exact hL.2 i hi⟩ (by simp (disch := omega) only [sI_o, sI_k, sI_n, sA_o, sA_s, sI_2, sA_2, sL_1, sL_o])
    refine ⟨τ, ?_, t2, fun j hj => by rw [t3 j hj]; simp (disch := omega) only [sI_o, sI_k, sI_n, sA_o, sA_s, sI_2, sA_2, sL_1, sL_o], fun c hc => by rw [t4 c hc]; simp (disch := omega) only [sI_o, sI_k, sI_n, sA_o, sA_s, sI_2, sA_2, sL_1, sL_o], by rw [t5]; rfl⟩
    rw [vR_s, ← t1]
    conv => lhs; unfold m_X11_number_45 m_X11_number_112 g_lt
    rw [hL.1, h4, if_neg (a_nle (a := n) i hyes.1 (by omega)), if_pos (a_in (by omega) (by omega)), nI_clamp (by omega), hL.2 i hyes.1, in_dig (hx8 i hyes.1), Option.bind_some, if_pos hyes.2]
    dsimp only
    rw [if_neg n10, h4, pk_sub hb, nI_clamp (by omega), hL.2 i hyes.1, if_pos (a_in (by omega) (by omega)), nI_1]
    by_cases q : 2 < i - b
    · rw [if_neg (show ¬ nI (i - b) ≤ (2 : Int32) from a_nle 2 q (by omega)), if_pos q]
      rfl
    · rw [if_pos (show nI (i - b) ≤ (2 : Int32) from a_le 2 (by omega) (by omega)), if_neg q, show (10 : Int32) * nI v = nI (10 * v) from pk_mul 10 v, nI_add, show nI (10 * v + x i) - (48 : Int32) = nI (10 * v + x i - 48) from pk_sub (show 48 ≤ 10 * v + x i by omega), show 10 * v + x i - 48 = 10 * v + (x i - 48) by omega]
theorem vR_lt {x : Nat → Nat} {n b : Nat} (hb : b < n) (hd : isD (x b) = true) : vR x b (dge x n b - b) b 0 < 10000 := by
  obtain ⟨d1, d2, d3, d4⟩ := dge_p (x := x) (n := n) _ b (Nat.le_refl _) (by omega)
  by_cases z : dge x n b - b ≤ 3
  · rw [v_same _ _ _ (by omega)]
    have := vC_lt (x := x) (b := b) (dge x n b - b) b 0 (Nat.le_refl _) (fun j j1 j2 => d4 j j1 (by omega)) (by rw [Nat.sub_self]; show 0 < 1; omega)
    omega
  · rw [v_big _ _ _ (by omega) (by omega)]; omega
/-- the mode behind one more number -/
def nxM (x : Nat → Nat) (n lo h1 : Nat) : Sum (Nat × Nat) Nat → Sum (Nat × Nat) Nat
  | .inl e => .inl e
  | .inr a => match num1 x n lo h1 a with
    | .inl e => .inl e
    | .inr (_, e) => .inr e
theorem r_number {x : Nat → Nat} {n N lo h1 : Nat} {hi : Int32} {M : Sum (Nat × Nat) Nat} {σ : g_St} (hn : n ≤ 250) (hN : 300 < N) (hx8 : ∀ i, i < n → x i < 256) (hlo : lo ≤ 1) (hhi : ∀ v, v < 10000 → (nI v ≤ hi ↔ v < h1)) (hL : LT x n σ) (hM : RM n M σ) : ∃ r τ, m_X11_number N (nI lo) hi σ = some (r, τ) ∧ RM n (nxM x n lo h1 M) τ ∧ F7 σ τ ∧ ∀ a v e, M = .inr a → num1 x n lo h1 a = .inr (v, e) → r = nI v := by
  cases M with
  | inl z =>
    obtain ⟨q, p⟩ := z
    obtain ⟨m1, m2, m3, m4⟩ := hM
    refine ⟨nI lo, σ, ?_, ⟨m1, m2, m3, m4⟩, F7_rf σ, fun a v e h => by cases h⟩
    unfold m_X11_number
    rw [m1, if_neg (nI_ne0 (by omega) (by omega))]
  | inr a =>
    obtain ⟨m1, m2, m3, m4⟩ := hM
    obtain ⟨s1, s2, s3, s4⟩ := skp_p (x := x) (n := n) _ a (Nat.le_refl _) m4
    obtain ⟨y, y1, y2, y3, y4, y5⟩ := r_here (N := N) hn hN hx8 m4 hL m1
    have hF : F7 σ y := ⟨y4, fun j j1 _ _ => y3 j j1, y5⟩
    unfold m_X11_number
    rw [if_pos m2, y1, Option.bind_some]
    dsimp only
    unfold nxM num1
    dsimp only
    obtain ⟨b, hb⟩ : ∃ b, b = skp x n a := ⟨_, rfl⟩
    rw [← hb] at s1 s2 s3 s4 y2 ⊢
    by_cases hd : b < n ∧ isD (x b) = true
    · rw [if_pos hd, if_pos hd.1, in_dig (hx8 b hd.1), Option.bind_some, if_pos hd.2]
      dsimp only
      rw [if_neg n10]
      unfold g_lt
      obtain ⟨d1, d2, d3, d4⟩ := dge_p (x := x) (n := n) _ b (Nat.le_refl _) (by omega)
      obtain ⟨z, z1, z2, z3, z4, z5⟩ := r_n45 (N := N) (b := b) (x1 := nI lo) (x2 := hi) hn hx8 (dge x n b - b) b 0 N y rfl (Nat.le_refl _) (by omega) (by omega) (LT_k hL hF) y2
      have hvl := vR_lt hd.1 hd.2
      obtain ⟨v, hv⟩ : ∃ v, v = vR x b (dge x n b - b) b 0 := ⟨_, rfl⟩
      rw [← hv] at z1 hvl ⊢
      have hFz : F7 σ z := F7_tr hF ⟨z4, fun j j1 _ _ => z3 j j1, z5⟩
      dsimp only
      rw [y2, show (0 : Int32) = nI 0 from rfl, z1]
      unfold m_X11_number_127
      rw [r_in, Option.bind_some]
      dsimp only
      by_cases hc : lo ≤ v ∧ v < h1
      · rw [if_pos hc, if_pos (show nI lo ≤ nI v ∧ nI v ≤ hi from ⟨a_le _ hc.1 (by omega), (hhi v hvl).mpr hc.2⟩), if_neg n10]
        refine ⟨nI v, z, rfl, ⟨z2, by rw [z3 5 (by omega), y3 5 (by omega)]; exact m2, by rw [z3 6 (by omega), y3 6 (by omega)]; exact m3, d2⟩, hFz, fun a' v' e' h1 h2 => ?_⟩
        cases h1
        rw [← hb, if_pos hd, ← hv, if_pos hc] at h2
        cases h2
        rfl
      · rw [if_neg hc, if_neg (show ¬ (nI lo ≤ nI v ∧ nI v ≤ hi) from fun w => hc ⟨by
          apply Classical.byContradiction
          intro q
          exact a_nle _ (by omega) (by omega) w.1, (hhi v hvl).mp w.2⟩), if_pos rfl, r_fault0 (by rw [z3 5 (by omega), y3 5 (by omega)]; exact m2), Option.bind_some]
        refine ⟨nI v, _, rfl, ⟨by simp (disch := omega) only [sI_o, sI_k, sI_n, sA_o, sA_s, sI_2, sA_2, sL_1, sL_o]; rfl, by simp (disch := omega) only [sI_o, sI_k, sI_n, sA_o, sA_s, sI_2, sA_2, sL_1, sL_o], by omega, by omega⟩, F7_I (F7_I hFz (by omega)) (by omega), fun a' v' e' h1 h2 => ?_⟩
        cases h1
        rw [← hb, if_pos hd, ← hv, if_neg hc] at h2
        cases h2
    · rw [if_neg hd]
      have hin : m_X11_in (if b < n then nI (x b) else -1).toInt64 (48 : Int64) (57 : Int64) y = some (0, y) := by
        by_cases q : b < n
        · rw [if_pos q, in_dig (hx8 b q), if_neg (fun z => hd ⟨q, z⟩)]
        · rw [if_neg q, in_none]
      rw [hin, Option.bind_some, if_pos rfl]
      dsimp only
      rw [r_fault0 (by rw [y3 5 (by omega)]; exact m2), Option.bind_some, y2]
      refine ⟨nI lo, _, rfl, ⟨by simp (disch := omega) only [sI_o, sI_k, sI_n, sA_o, sA_s, sI_2, sA_2, sL_1, sL_o]; rfl, by simp (disch := omega) only [sI_o, sI_k, sI_n, sA_o, sA_s, sI_2, sA_2, sL_1, sL_o], by omega, by omega⟩, F7_I (F7_I hF (by omega)) (by omega), fun a' v' e' h1 h2 => ?_⟩
      cases h1
      rw [← hb, if_neg hd] at h2
      cases h2
/-- the numbers of a clause, one more -/
theorem r_numN {x : Nat → Nat} {n N c P j a0 lo h1 : Nat} {hi : Int32} {σ : g_St} (hn : n ≤ 250) (hN : 300 < N) (hx8 : ∀ i, i < n → x i < 256) (hlo : lo = rlo c j) (hh : h1 = rhi c P j) (hhi : ∀ v, v < 10000 → (nI v ≤ hi ↔ v < h1)) (hL : LT x n σ) (hM : RM n (outM (nsR x n c P j 0 a0 (fun _ => 0))) σ) : ∃ r τ, m_X11_number N (nI lo) hi σ = some (r, τ) ∧ RM n (outM (nsR x n c P (j + 1) 0 a0 (fun _ => 0))) τ ∧ F7 σ τ ∧ ∀ g e, nsR x n c P (j + 1) 0 a0 (fun _ => 0) = .inr (g, e) → r = nI (g j) ∧ ∃ g' e', nsR x n c P j 0 a0 (fun _ => 0) = .inr (g', e') ∧ ∀ i, i < j → g i = g' i := by
  obtain ⟨r, τ, t1, t2, t3, t4⟩ := r_number (N := N) (lo := lo) (h1 := h1) hn hN hx8 (by rw [hlo]; unfold rlo; split <;> omega) hhi hL hM
  refine ⟨r, τ, t1, ?_, t3, fun g e hg => ?_⟩
  · rw [nsR_snoc, Nat.zero_add]
    cases hj : nsR x n c P j 0 a0 (fun _ => 0) with
    | inl z => rw [hj] at t2; exact t2
    | inr z =>
      obtain ⟨g, e⟩ := z
      rw [hj] at t2
      unfold outM nxM at t2
      dsimp only at t2 ⊢
      rw [hlo, hh] at t2
      cases hq : num1 x n (rlo c j) (rhi c P j) e with
      | inl w => rw [hq] at t2; exact t2
      | inr w => obtain ⟨v, e2⟩ := w; rw [hq] at t2; exact t2
  · rw [nsR_snoc, Nat.zero_add] at hg
    cases hj : nsR x n c P j 0 a0 (fun _ => 0) with
    | inl z => rw [hj] at hg; cases hg
    | inr z =>
      obtain ⟨g1, e1⟩ := z
      rw [hj] at hg
      dsimp only at hg
      cases hq : num1 x n (rlo c j) (rhi c P j) e1 with
      | inl w => rw [hq] at hg; cases hg
      | inr w =>
        obtain ⟨v, e2⟩ := w
        rw [hq] at hg
        cases hg
        refine ⟨?_, g1, e1, rfl, fun i hi => g_up_n _ _ (by omega)⟩
        rw [g_up_s]
        refine t4 e1 v e (by rw [hj]; rfl) ?_
        rw [hlo, hh]
        exact hq
