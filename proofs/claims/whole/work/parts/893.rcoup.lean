/-! the reference's couples -/
def oA (n : Nat) (fb : Nat → Nat → Bool) (f : Nat → Nat) (i : Nat) : Prop := f i = 6 ∨ (f i < n ∧ f i ≠ i ∧ fb i (f i) = true)
def oB (f : Nat → Nat) (i : Nat) : Prop := f i = 6 ∨ f (f i) = i
theorem VM_iff {n : Nat} {fb : Nat → Nat → Bool} {f : Nat → Nat} : VM n fb f ↔ (∀ i, i < n → oA n fb f i) ∧ (∀ i, i < n → oB f i) := by
  constructor
  · intro h
    refine ⟨fun i hi => (h i hi).imp id (fun q => ⟨q.1, q.2.1, q.2.2.1⟩), fun i hi => (h i hi).imp id (fun q => q.2.2.2)⟩
  · intro h i hi
    rcases h.1 i hi with q | q
    · exact Or.inl q
    · rcases h.2 i hi with z | z
      · exact Or.inl z
      · exact Or.inr ⟨q.1, q.2.1, q.2.2, z⟩
noncomputable def p01 (P : Prop) : Int32 := @ite _ P (Classical.propDecidable _) 1 0
theorem p01_t {P : Prop} (h : P) : p01 P = 1 := if_pos h
theorem p01_f {P : Prop} (h : ¬ P) : p01 P = 0 := if_neg h
def cnJ (n : Nat) (f : Nat → Nat) (j : Nat) : Nat := sg n (fun i => if j ≤ i ∧ f i ≠ 6 then 1 else 0)
theorem cnJ_s {n j : Nat} {f : Nat → Nat} (hj : j < n) : cnJ n f j = cnJ n f (j + 1) + (if f j ≠ 6 then 1 else 0) := by
  unfold cnJ
  refine sg_up (u0 := j) n hj (fun u hu hne => ?_) ?_
  · by_cases q : j ≤ u ∧ f u ≠ 6
    · rw [if_pos q, if_pos ⟨by omega, q.2⟩]
    · rw [if_neg q, if_neg (fun z => q ⟨by omega, z.2⟩)]
  · by_cases q : f j ≠ 6
    · rw [if_pos ⟨Nat.le_refl _, q⟩, if_neg (fun z => by omega), if_pos q]
    · rw [if_neg (fun z => q z.2), if_neg (fun z => by omega), if_neg q]
theorem cnJ_0 {n : Nat} {f : Nat → Nat} : cnJ n f 0 = cn n f := sg_c n (fun u _ => by simp)
theorem cnJ_n {n : Nat} {f : Nat → Nat} : cnJ n f n = 0 := sg_0 n (fun u hu => if_neg (fun z => by omega))
theorem sg_lu {F : Nat → Nat} : ∀ n, (∀ u, u < n → F u ≤ 1) → sg n F ≤ n
  | 0, _ => Nat.le_refl _
  | n + 1, h => by rw [sg_s]; have := sg_lu n (fun u hu => h u (by omega)); have := h n (by omega); omega
theorem cn_le {n : Nat} {f : Nat → Nat} : cn n f ≤ n := sg_lu n (fun u _ => by split <;> omega)
theorem r_may {d : Dt} {a p q : Nat} {σ : g_St} (ok : OK d) (h : RR d σ) (ha : a ≤ 99) (hp : p < tP (dT d)) (hq : q < tP (dT d)) (hne : p ≠ q) : m_X11_mayWed (nI p) (nI q) (nI a) σ = some (if fbD d a p q = true then 1 else 0, σ) := by
  have hP : tP (dT d) ≤ 6 := ok.1.1
  have hg2 := ok.1.2.2.2.2.2.1 2 (by omega)
  have hA := (ok.2.1.2.2.2.2.1 p hp).1
  have hA2 := (ok.2.1.2.2.2.2.1 q hq).1
  have h7 : σ.1 79 7 = nI (tG (dT d) 2) := h.1.1.2.2.2.2.1 2 (by omega)
  have key : ∀ x, x = nA (dN d) p - nA (dN d) q + (nA (dN d) q - nA (dN d) p) → m_X11_mayWed_44 (nI a) (nI (nA (dN d) p)) (nI (nA (dN d) q)) (nI x) σ = some (if fbD d a p q = true then 1 else 0, σ) := fun x hx => by
    unfold m_X11_mayWed_44
    rw [h7]
    by_cases c : fbD d a p q = true
    · have c' : p ≠ q ∧ nA (dN d) p - nA (dN d) q + (nA (dN d) q - nA (dN d) p) ≤ a ∧ tG (dT d) 2 ≤ nA (dN d) p ∧ tG (dT d) 2 ≤ nA (dN d) q := of_decide_eq_true c
      rw [if_neg (a_nlt _ c'.2.2.1 (by omega)), if_neg (a_nlt _ c'.2.2.2 (by omega)), if_neg (a_nlt _ (by rw [hx]; exact c'.2.1) (by omega)), if_pos c]
    · have c' : ¬ (p ≠ q ∧ nA (dN d) p - nA (dN d) q + (nA (dN d) q - nA (dN d) p) ≤ a ∧ tG (dT d) 2 ≤ nA (dN d) p ∧ tG (dT d) 2 ≤ nA (dN d) q) := fun z => c (decide_eq_true z)
      rw [if_neg c]
      by_cases q1 : nA (dN d) p < tG (dT d) 2
      · rw [if_pos (a_lt _ q1 (by omega))]
      · rw [if_neg (a_nlt _ (by omega) (by omega))]
        by_cases q2 : nA (dN d) q < tG (dT d) 2
        · rw [if_pos (a_lt _ q2 (by omega))]
        · rw [if_neg (a_nlt _ (by omega) (by omega)), if_pos (a_lt _ (by
            apply Classical.byContradiction
            intro z
            exact c' ⟨hne, by omega, by omega, by omega⟩) (by omega))]
  unfold m_X11_mayWed g_lt
  dsimp only
  rw [e3, if_pos (a_in (by omega) (by omega)), nI_clamp (by omega), (h.1.2.1.2.2.2.1 p hp).1, e3, if_pos (a_in (by omega) (by omega)), nI_clamp (by omega), (h.1.2.1.2.2.2.1 q hq).1]
  by_cases c : nA (dN d) q ≤ nA (dN d) p
  · rw [if_pos (a_le _ c (by omega)), pk_sub c]
    exact key _ (by omega)
  · rw [if_neg (a_nle _ (by omega) (by omega)), pk_sub (by omega)]
    exact key _ (by omega)
theorem dg_le (n r i : Nat) : dg n r i ≤ 6 := by unfold dg; omega
theorem dl_in {x : Nat} (h : x < 6) : dl x = nI x := if_neg (by omega)
theorem dl_6 : dl 6 = -1 := rfl
theorem dl_n {x : Nat} (h : x < 6) : ¬ dl x = -1 := by rw [dl_in h, u_m1 (by omega)]; exact id
theorem p01_and {P Q : Prop} (hQ : Q) : p01 P = p01 (P ∧ Q) := by
  by_cases q : P
  · rw [p01_t q, p01_t ⟨q, hQ⟩]
  · rw [p01_f q, p01_f (fun z => q z.1)]
theorem p01_c {P Q : Prop} (h : P ↔ Q) : p01 P = p01 Q := by
  by_cases q : P
  · rw [p01_t q, p01_t (h.mp q)]
  · rw [p01_f q, p01_f (fun z => q (h.mpr z))]
theorem r_m56 {d : Dt} {N a r : Nat} {x3 x4 : Int32} {k35 : Int32 → Int32 → Int32 → Int32 → Int32 → g_St → Option (Int32 × g_St)} (ok : OK d) (ha : a ≤ 99) (hr7 : r < 117649) : ∀ j fu σ, j ≤ tP (dT d) → j < fu → RR d σ → (∀ i, j ≤ i → i < tP (dT d) → σ.1 87 i = dl (dg (tP (dT d)) r i)) → ∃ τ, m_X11_mostPairs_56 k35 N fu (nI a) (nI (tP (dT d))) x3 x4 (nI r) (nI (r / 7 ^ (tP (dT d) - j))) (nI (cnJ (tP (dT d)) (dg (tP (dT d)) r) j)) (p01 (∀ i, i < tP (dT d) → j ≤ i → oA (tP (dT d)) (fbD d a) (dg (tP (dT d)) r) i)) (nI j - 1) σ = m_X11_mostPairs_187 k35 N N (nI a) (nI (tP (dT d))) x3 x4 (nI r) (nI (cn (tP (dT d)) (dg (tP (dT d)) r))) (p01 (∀ i, i < tP (dT d) → oA (tP (dT d)) (fbD d a) (dg (tP (dT d)) r) i)) 0 τ ∧ (∀ i, i < tP (dT d) → τ.1 87 i = dl (dg (tP (dT d)) r i)) ∧ (∀ c, c ≠ 87 → τ.1 c = σ.1 c) ∧ τ.2 = σ.2 := by
  have hP : tP (dT d) ≤ 6 := ok.1.1
  intro j
  induction j with
  | zero =>
    intro fu σ hj hf h h87
    obtain ⟨fu, rfl⟩ : ∃ f, fu = f + 1 := ⟨fu - 1, by omega⟩
    refine ⟨σ, ?_, fun i hi => h87 i (by omega) hi, fun c _ => rfl, rfl⟩
    unfold m_X11_mostPairs_56
    rw [if_pos (show nI 0 - 1 < (0 : Int32) by decide), cnJ_0, p01_c (show (∀ i, i < tP (dT d) → 0 ≤ i → oA (tP (dT d)) (fbD d a) (dg (tP (dT d)) r) i) ↔ (∀ i, i < tP (dT d) → oA (tP (dT d)) (fbD d a) (dg (tP (dT d)) r) i) from ⟨fun z i hi => z i hi (by omega), fun z i hi _ => z i hi⟩)]
  | succ p ih =>
    intro fu σ hj hf h h87
    obtain ⟨fu, rfl⟩ : ∃ f, fu = f + 1 := ⟨fu - 1, by omega⟩
    obtain ⟨f, hfd⟩ : ∃ f, f = dg (tP (dT d)) r := ⟨_, rfl⟩
    obtain ⟨L, hL⟩ : ∃ L, L = r / 7 ^ (tP (dT d) - (p + 1)) := ⟨_, rfl⟩
    have hLr : L ≤ r := by rw [hL]; exact Nat.div_le_self _ _
    have hfp : f p = L % 7 := by rw [hfd, hL]; unfold dg; rw [show tP (dT d) - 1 - p = tP (dT d) - (p + 1) by omega]
    have hL7 : L / 7 = r / 7 ^ (tP (dT d) - p) := by
      rw [hL, Nat.div_div_eq_div_mul, ← Nat.pow_succ, show (tP (dT d) - (p + 1)).succ = tP (dT d) - p by omega]
    have hfp6 : f p ≤ 6 := by omega
    have hcs := cnJ_s (f := f) (show p < tP (dT d) by omega)
    have i1 : g_in (nI p) 6 := a_in (by omega) (by omega)
    simp only [← hfd] at ih h87 ⊢
    have h87' : ∀ i, p ≤ i → i < tP (dT d) → (g_sI σ 87 p (dl (f p))).1 87 i = dl (f i) := fun i h1 h2 => by
      by_cases e : i = p
      · rw [e, sI_k]
      · rw [sI_n e]; exact h87 i (by omega) h2
    have hR' : RR d (g_sI σ 87 p (dl (f p))) := RR_fr h (fun c _ _ _ _ _ c1 _ => by simp (disch := omega) only [sI_o, sI_k, sI_n, sA_o, sA_s, sI_2, sA_2, sL_1, sL_o])
    obtain ⟨τ, t1, t2, t3, t4⟩ := ih fu (g_sI σ 87 p (dl (f p))) (by omega) (by omega) hR' h87'
    refine ⟨τ, ?_, t2, fun c hc => by rw [t3 c hc]; simp (disch := omega) only [sI_o, sI_k, sI_n, sA_o, sA_s, sI_2, sA_2, sL_1, sL_o], by rw [t4]; rfl⟩
    rw [← t1, ← hL7, hcs, ← hL]
    obtain ⟨F, hF⟩ : ∃ F, F = (∀ i, i < tP (dT d) → p + 1 ≤ i → oA (tP (dT d)) (fbD d a) f i) := ⟨_, rfl⟩
    have hFs : p01 (∀ i, i < tP (dT d) → p ≤ i → oA (tP (dT d)) (fbD d a) f i) = p01 (F ∧ oA (tP (dT d)) (fbD d a) f p) := p01_c (by
      rw [hF]
      exact ⟨fun z => ⟨fun i h1 h2 => z i h1 (by omega), z p (by omega) (Nat.le_refl _)⟩, fun z i h1 h2 => by
        by_cases e : i = p
        · rw [e]; exact z.2
        · exact z.1 i h1 (by omega)⟩)
    rw [hFs, ← hF]
    have hv : (if (nI L - nI L / (7 : Int32) * (7 : Int32)) = (6 : Int32) then (-1 : Int32) else nI L - nI L / (7 : Int32) * (7 : Int32)) = dl (f p) := by
      rw [show nI L - nI L / (7 : Int32) * (7 : Int32) = nI (L % 7) from pk_rem (d := 7) (by omega) (by omega) (by omega), hfp]
      unfold dl
      by_cases e : L % 7 = 6
      · rw [if_pos e, e, if_pos (show nI 6 = (6 : Int32) from rfl)]
      · rw [if_neg e, if_neg (show ¬ nI (L % 7) = (6 : Int32) from a_ne 6 e (by omega) (by omega))]
    have hgo : ∀ v, v = dl (f p) → m_X11_mostPairs_86 k35 (m_X11_mostPairs_56 k35 N fu) N (nI a) (nI (tP (dT d))) x3 x4 (nI r) (nI L) (nI (cnJ (tP (dT d)) f (p + 1))) (p01 F) (nI p) (nI p) v σ = m_X11_mostPairs_56 k35 N fu (nI a) (nI (tP (dT d))) x3 x4 (nI r) (nI (L / 7)) (nI (cnJ (tP (dT d)) f (p + 1) + (if f p ≠ 6 then 1 else 0))) (p01 (F ∧ oA (tP (dT d)) (fbD d a) f p)) (nI p - 1) (g_sI σ 87 p (dl (f p))) := fun v hv => by
      have e155 : ∀ s, m_X11_mostPairs_155 k35 (m_X11_mostPairs_56 k35 N fu) N (nI a) (nI (tP (dT d))) x3 x4 (nI r) (nI (L / 7)) (nI (cnJ (tP (dT d)) f (p + 1))) (nI p) s (g_sI σ 87 p (dl (f p))) = m_X11_mostPairs_56 k35 N fu (nI a) (nI (tP (dT d))) x3 x4 (nI r) (nI (L / 7)) (nI (cnJ (tP (dT d)) f (p + 1) + (if f p ≠ 6 then 1 else 0))) s (nI p - 1) (g_sI σ 87 p (dl (f p))) := fun s => by
        unfold m_X11_mostPairs_155 m_X11_mostPairs_175 g_lt
        rw [if_pos i1, nI_clamp (by omega), sI_k, em1]
        by_cases e : f p = 6
        · rw [e, if_pos dl_6, if_neg (show ¬ 6 ≠ 6 from fun z => z rfl), show (0 : Int32) = nI 0 from rfl, nI_add]
        · rw [if_neg (dl_n (by omega)), if_pos e, nI_1]
      rw [hv]
      unfold m_X11_mostPairs_86 m_X11_mostPairs_154 m_X11_mostPairs_150 g_lt
      dsimp only
      rw [if_pos i1, nI_clamp (by omega), sI_k, show nI L / (7 : Int32) = nI (L / 7) from pk_div (d := 7) (by omega) (by omega) (by omega), if_pos i1, if_pos i1, if_pos i1, if_pos i1, e155, e155]
      by_cases hFF : F
      · rw [p01_t hFF, if_neg n10]
        by_cases e : f p = 6
        · rw [if_pos (by rw [e]; rfl), p01_t ⟨hFF, Or.inl e⟩]
        · have h6 : f p < 6 := by omega
          rw [if_neg (dl_n h6), dl_in h6]
          by_cases q1 : f p < tP (dT d)
          · rw [if_neg (a_nle (a := tP (dT d)) (f p) q1 (by omega))]
            by_cases q2 : f p = p
            · rw [if_pos (by rw [q2]), p01_f (fun z => z.2.elim e (fun w => w.2.1 q2))]
            · have hm := r_may ok hR' ha (show p < tP (dT d) by omega) q1 (fun z => q2 z.symm)
              rw [← dl_in h6] at hm
              rw [if_neg (a_ne p q2 (by omega) (by omega)), ← dl_in h6, hm, Option.bind_some]
              dsimp only
              by_cases q3 : fbD d a p (f p) = true
              · rw [if_pos q3, if_neg n10, p01_t ⟨hFF, Or.inr ⟨q1, q2, q3⟩⟩]
                exact e155 1
              · rw [if_neg q3, if_pos rfl, p01_f (fun z => z.2.elim e (fun w => q3 w.2.2))]
                exact e155 0
          · rw [if_pos (a_le (a := tP (dT d)) (f p) (by omega) (by omega)), p01_f (fun z => z.2.elim e (fun w => q1 w.1))]
      · rw [p01_f hFF, if_pos rfl, p01_f (fun z => hFF z.1)]
    conv => lhs; unfold m_X11_mostPairs_56
    rw [nI_pred, if_neg (nI_pos (by omega))]
    by_cases c : (nI L - nI L / (7 : Int32) * (7 : Int32)) = (6 : Int32)
    · rw [if_pos c]
      rw [if_pos c] at hv
      exact hgo _ hv
    · rw [if_neg c]
      rw [if_neg c] at hv
      exact hgo _ hv
theorem r_m187 {N n : Nat} {x1 x3 x4 x5 x7 : Int32} {fb : Nat → Nat → Bool} {f : Nat → Nat} {k35 : Int32 → Int32 → Int32 → Int32 → Int32 → g_St → Option (Int32 × g_St)} {σ : g_St} (hn : n ≤ 6) (hA : ∀ i, i < n → oA n fb f i) (h87 : ∀ i, i < n → σ.1 87 i = dl (f i)) : ∀ m i fu, i + m = n → m < fu → m_X11_mostPairs_187 k35 N fu x1 (nI n) x3 x4 x5 x7 1 (nI i) σ = m_X11_mostPairs_239 k35 N x1 (nI n) x3 x4 x5 x7 (p01 (∀ j, j < n → i ≤ j → oB f j)) σ := by
  intro m
  induction m with
  | zero =>
    intro i fu hi hf
    obtain ⟨fu, rfl⟩ : ∃ f, fu = f + 1 := ⟨fu - 1, by omega⟩
    unfold m_X11_mostPairs_187
    rw [if_pos (a_le i (by omega) (by omega)), p01_t (fun j h1 h2 => by omega)]
  | succ m ih =>
    intro i fu hi hf
    obtain ⟨fu, rfl⟩ : ∃ f, fu = f + 1 := ⟨fu - 1, by omega⟩
    have i1 : g_in (nI i) 6 := a_in (by omega) (by omega)
    have hn' := ih (i + 1) fu (by omega) (by omega)
    have hpp : oB f i → p01 (∀ j, j < n → i + 1 ≤ j → oB f j) = p01 (∀ j, j < n → i ≤ j → oB f j) := fun hb => p01_c ⟨fun z j h1 h2 => by
      by_cases e : j = i
      · rw [e]; exact hb
      · exact z j h1 (by omega), fun z j h1 h2 => z j h1 (by omega)⟩
    unfold m_X11_mostPairs_187 m_X11_mostPairs_226 m_X11_mostPairs_231 g_lt
    dsimp only
    rw [if_neg (a_nle (a := n) i (by omega) (by omega)), if_neg n10, if_pos i1, nI_clamp (by omega), h87 i (by omega), nI_1]
    by_cases e : f i = 6
    · rw [if_pos (by rw [e]; rfl), hn', hpp (Or.inl e)]
    · rcases hA i (by omega) with q | ⟨q1, q2, q3⟩
      · exact absurd q e
      · rw [if_neg (dl_n (by omega)), if_pos i1, dl_in (by omega), if_pos (a_in (by omega) (by omega)), nI_clamp (by omega), h87 _ q1]
        by_cases z : f (f i) = i
        · rw [if_pos (by rw [z, dl_in (by omega)]), hn', hpp (Or.inr z)]
        · rw [if_neg (fun w => ?_), p01_f (fun w => (w i (by omega) (Nat.le_refl _)).elim e z)]
          · obtain ⟨fu, rfl⟩ : ∃ f, fu = f + 1 := ⟨fu - 1, by omega⟩
            unfold m_X11_mostPairs_187
            rw [if_pos rfl, ite_self]
          · by_cases e6 : f (f i) = 6
            · rw [e6, dl_6] at w
              exact absurd w.symm (by rw [u_m1 (by omega)]; exact id)
            · have : f (f i) ≤ 6 := by
                rcases hA (f i) q1 with v | v
                · omega
                · have := v.1; omega
              rw [dl_in (by omega)] at w
              exact a_ne i z (by omega) (by omega) w
theorem r_m258 {N n : Nat} {x1 x3 x4 : Int32} {r : Nat} {f : Nat → Nat} {k35 : Int32 → Int32 → Int32 → Int32 → Int32 → g_St → Option (Int32 × g_St)} (hn : n ≤ 6) : ∀ m i fu σ, i + m = n → m < fu → (∀ i, i < n → σ.1 87 i = dl (f i)) → (∀ j, j < i → σ.1 88 j = dl (f j)) → ∃ τ, m_X11_mostPairs_258 k35 N fu x1 (nI n) x3 x4 (nI r) (nI i) σ = k35 x1 (nI n) x3 x4 (nI (r + 1)) τ ∧ (∀ j, j < n → τ.1 88 j = dl (f j)) ∧ (∀ c, c ≠ 88 → τ.1 c = σ.1 c) ∧ τ.2 = σ.2 := by
  intro m
  induction m with
  | zero =>
    intro i fu σ hi hf h87 h88
    obtain ⟨fu, rfl⟩ : ∃ f, fu = f + 1 := ⟨fu - 1, by omega⟩
    refine ⟨σ, ?_, fun j hj => h88 j (by omega), fun c _ => rfl, rfl⟩
    unfold m_X11_mostPairs_258 m_X11_mostPairs_284 g_lt
    rw [if_pos (a_le i (by omega) (by omega)), nI_1]
  | succ m ih =>
    intro i fu σ hi hf h87 h88
    obtain ⟨fu, rfl⟩ : ∃ f, fu = f + 1 := ⟨fu - 1, by omega⟩
    have i1 : g_in (nI i) 6 := a_in (by omega) (by omega)
    obtain ⟨τ, t1, t2, t3, t4⟩ := ih (i + 1) fu (g_sI σ 88 i (dl (f i))) (by omega) (by omega) (fun i hi => by simp (disch := omega) only [sI_o, sI_k, sI_n, sA_o, sA_s, sI_2, sA_2, sL_1, sL_o]; exact h87 i hi) (fun j hj => by
      by_cases e : j = i
      · rw [e, sI_k]
      · rw [sI_n e]; exact h88 j (by omega))
    refine ⟨τ, ?_, t2, fun c hc => by rw [t3 c hc]; simp (disch := omega) only [sI_o, sI_k, sI_n, sA_o, sA_s, sI_2, sA_2, sL_1, sL_o], by rw [t4]; rfl⟩
    rw [← t1]
    conv => lhs; unfold m_X11_mostPairs_258 g_lt
    dsimp only
    rw [if_neg (a_nle (a := n) i (by omega) (by omega)), if_pos i1, if_pos i1, nI_clamp (by omega), h87 i (by omega), nI_1]
def mv (n : Nat) : Option Nat → Int32
  | none => -1
  | some x => nI (cn n (dg n x))
theorem r_m35 {d : Dt} {N a : Nat} (ok : OK d) (ha : a ≤ 99) (hN : 8 < N) (h7 : 7 ^ tP (dT d) ≤ 117649) : ∀ m r b fu σ, r + m = 7 ^ tP (dT d) → m < fu → RR d σ → (∀ x, b = some x → ∀ i, i < tP (dT d) → σ.1 88 i = dl (dg (tP (dT d)) x i)) → ∃ τ, m_X11_mostPairs_35 N fu (nI a) (nI (tP (dT d))) (nI (7 ^ tP (dT d))) (mv (tP (dT d)) b) (nI r) σ = some (mv (tP (dT d)) (rfF (tP (dT d)) (fbD d a) m r b) / 2, τ) ∧ (∀ x, rfF (tP (dT d)) (fbD d a) m r b = some x → ∀ i, i < tP (dT d) → τ.1 88 i = dl (dg (tP (dT d)) x i)) ∧ (∀ c, c ≠ 87 → c ≠ 88 → τ.1 c = σ.1 c) ∧ τ.2 = σ.2 := by
  have hP : tP (dT d) ≤ 6 := ok.1.1
  intro m
  induction m with
  | zero =>
    intro r b fu σ hr hf h hb
    obtain ⟨fu, rfl⟩ : ∃ f, fu = f + 1 := ⟨fu - 1, by omega⟩
    refine ⟨σ, ?_, hb, fun c _ _ => rfl, rfl⟩
    unfold m_X11_mostPairs_35
    rw [if_pos (a_le r (by omega) (by omega))]
    rfl
  | succ m ih =>
    intro r b fu σ hr hf h hb
    obtain ⟨fu, rfl⟩ : ∃ f, fu = f + 1 := ⟨fu - 1, by omega⟩
    obtain ⟨x, x1, x2, x3, x4⟩ := r_m56 (N := N) (a := a) (r := r) (x3 := nI (7 ^ tP (dT d))) (x4 := mv (tP (dT d)) b) (k35 := m_X11_mostPairs_35 N fu) ok ha (by omega) (tP (dT d)) N σ (Nat.le_refl _) (by omega) h (fun i h1 h2 => by omega)
    rw [Nat.sub_self, Nat.pow_zero, Nat.div_one, cnJ_n, p01_t (fun i h1 h2 => by omega)] at x1
    have hx : RR d x := RR_fr h (fun c _ _ _ _ _ c1 _ => x3 c c1)
    have hxb : ∀ y, b = some y → ∀ i, i < tP (dT d) → x.1 88 i = dl (dg (tP (dT d)) y i) := fun y hy i hi => by rw [x3 88 (by omega)]; exact hb y hy i hi
    have hcl : cn (tP (dT d)) (dg (tP (dT d)) r) ≤ tP (dT d) := cn_le
    have e35 : m_X11_mostPairs_35 N (fu + 1) (nI a) (nI (tP (dT d))) (nI (7 ^ tP (dT d))) (mv (tP (dT d)) b) (nI r) σ = m_X11_mostPairs_187 (m_X11_mostPairs_35 N fu) N N (nI a) (nI (tP (dT d))) (nI (7 ^ tP (dT d))) (mv (tP (dT d)) b) (nI r) (nI (cn (tP (dT d)) (dg (tP (dT d)) r))) (p01 (∀ i, i < tP (dT d) → oA (tP (dT d)) (fbD d a) (dg (tP (dT d)) r) i)) 0 x := by
      rw [← x1]
      conv => lhs; unfold m_X11_mostPairs_35 g_lt
      rw [if_neg (a_nle (a := 7 ^ tP (dT d)) r (by omega) (by omega))]
      rfl
    rw [e35]
    have skip : rfB (tP (dT d)) (fbD d a) b r = b → ∃ τ, m_X11_mostPairs_35 N fu (nI a) (nI (tP (dT d))) (nI (7 ^ tP (dT d))) (mv (tP (dT d)) b) (nI (r + 1)) x = some (mv (tP (dT d)) (rfF (tP (dT d)) (fbD d a) (m + 1) r b) / 2, τ) ∧ (∀ x, rfF (tP (dT d)) (fbD d a) (m + 1) r b = some x → ∀ i, i < tP (dT d) → τ.1 88 i = dl (dg (tP (dT d)) x i)) ∧ (∀ c, c ≠ 87 → c ≠ 88 → τ.1 c = σ.1 c) ∧ τ.2 = σ.2 := fun e => by
      obtain ⟨τ, t1, t2, t3, t4⟩ := ih (r + 1) b fu x (by omega) (by omega) hx hxb
      rw [rfF_s, e]
      exact ⟨τ, t1, t2, fun c c1 c2 => (t3 c c1 c2).trans (x3 c c1), t4.trans x4⟩
    by_cases hA : ∀ i, i < tP (dT d) → oA (tP (dT d)) (fbD d a) (dg (tP (dT d)) r) i
    · have e187 := r_m187 (N := N) (x1 := nI a) (x3 := nI (7 ^ tP (dT d))) (x4 := mv (tP (dT d)) b) (x5 := nI r) (x7 := nI (cn (tP (dT d)) (dg (tP (dT d)) r))) (k35 := m_X11_mostPairs_35 N fu) (σ := x) hP hA x2 (tP (dT d)) 0 N (by omega) (by omega)
      rw [p01_t hA, show (0 : Int32) = nI 0 from rfl, e187]
      by_cases hB : ∀ j, j < tP (dT d) → 0 ≤ j → oB (dg (tP (dT d)) r) j
      · rw [p01_t hB]
        have hV : VM (tP (dT d)) (fbD d a) (dg (tP (dT d)) r) := VM_iff.mpr ⟨hA, fun i hi => hB i hi (by omega)⟩
        unfold m_X11_mostPairs_239
        rw [if_neg n10]
        by_cases hc : ∀ y, b = some y → cn (tP (dT d)) (dg (tP (dT d)) y) < cn (tP (dT d)) (dg (tP (dT d)) r)
        · have e : rfB (tP (dT d)) (fbD d a) b r = some r := if_pos ⟨hV, hc⟩
          have hgt : ¬ nI (cn (tP (dT d)) (dg (tP (dT d)) r)) ≤ mv (tP (dT d)) b := by
            cases b with
            | none =>
              show ¬ nI _ ≤ (-1 : Int32)
              rw [Int32.le_iff_toInt_le, nI_toInt (by omega)]
              have : (-1 : Int32).toInt = -1 := by decide
              omega
            | some y => exact a_nle _ (hc y rfl) (by omega)
          rw [if_neg hgt]
          obtain ⟨z, z1, z2, z3, z4⟩ := r_m258 (N := N) (x1 := nI a) (x3 := nI (7 ^ tP (dT d))) (x4 := nI (cn (tP (dT d)) (dg (tP (dT d)) r))) (r := r) (f := dg (tP (dT d)) r) (k35 := m_X11_mostPairs_35 N fu) hP (tP (dT d)) 0 N x (by omega) (by omega) x2 (fun j hj => by omega)
          rw [show (0 : Int32) = nI 0 from rfl, z1]
          obtain ⟨τ, t1, t2, t3, t4⟩ := ih (r + 1) (some r) fu z (by omega) (by omega) (RR_fr hx (fun c _ _ _ _ _ _ c2 => z3 c c2)) (fun y hy i hi => by cases hy; exact z2 i hi)
          rw [rfF_s, e]
          exact ⟨τ, t1, t2, fun c c1 c2 => (t3 c c1 c2).trans ((z3 c c2).trans (x3 c c1)), t4.trans (z4.trans x4)⟩
        · have e : rfB (tP (dT d)) (fbD d a) b r = b := if_neg (fun z => hc z.2)
          have hle : nI (cn (tP (dT d)) (dg (tP (dT d)) r)) ≤ mv (tP (dT d)) b := by
            cases b with
            | none => exact absurd (fun y hy => by cases hy) hc
            | some y =>
              refine a_le _ ?_ (by have : cn (tP (dT d)) (dg (tP (dT d)) y) ≤ tP (dT d) := cn_le; omega)
              apply Classical.byContradiction
              intro w
              exact hc (fun v hv => by cases hv; omega)
          rw [if_pos hle]
          unfold m_X11_mostPairs_284 g_lt
          rw [nI_1]
          exact skip e
      · rw [p01_f hB]
        unfold m_X11_mostPairs_239 m_X11_mostPairs_284 g_lt
        rw [if_pos rfl, nI_1]
        exact skip (if_neg (fun z => hB (fun j hj _ => (VM_iff.mp z.1).2 j hj)))
    · obtain ⟨N', rfl⟩ : ∃ M, N = M + 1 := ⟨N - 1, by omega⟩
      rw [p01_f hA]
      unfold m_X11_mostPairs_187
      rw [if_pos rfl, ite_self]
      unfold m_X11_mostPairs_239 m_X11_mostPairs_284 g_lt
      rw [if_pos rfl, nI_1]
      exact skip (if_neg (fun z => hA (VM_iff.mp z.1).1))

theorem r_m12 {N n a : Nat} {σ : g_St} (hn : n ≤ 6) : ∀ m p fu, p + m = n → m < fu → m_X11_mostPairs_12 N fu (nI a) (nI n) (nI (7 ^ p)) (nI p) σ = m_X11_mostPairs_35 N N (nI a) (nI n) (nI (7 ^ n)) (-1) 0 σ := by
  intro m
  induction m with
  | zero =>
    intro p fu hp hf
    obtain ⟨fu, rfl⟩ : ∃ f, fu = f + 1 := ⟨fu - 1, by omega⟩
    unfold m_X11_mostPairs_12
    rw [if_pos (a_le p (by omega) (by omega)), show p = n by omega]
  | succ m ih =>
    intro p fu hp hf
    obtain ⟨fu, rfl⟩ : ∃ f, fu = f + 1 := ⟨fu - 1, by omega⟩
    rw [← ih (p + 1) fu (by omega) (by omega)]
    conv => lhs; unfold m_X11_mostPairs_12 g_lt
    rw [if_neg (a_nle (a := n) p (by omega) (by omega)), nI_1, show nI (7 ^ p) * (7 : Int32) = nI (7 ^ p * 7) from pk_mul _ 7, ← Nat.pow_succ]
theorem r_most {d : Dt} {N a : Nat} {σ : g_St} (ok : OK d) (ha : a ≤ 99) (hN : 117700 < N) (h : RR d σ) : ∃ τ, m_X11_mostPairs N (nI a) σ = some (nI (mC (tP (dT d)) (fbD d a)), τ) ∧ (∀ i, i < tP (dT d) → τ.1 88 i = dl (gC (tP (dT d)) (fbD d a) i)) ∧ (∀ c, c ≠ 87 → c ≠ 88 → τ.1 c = σ.1 c) ∧ τ.2 = σ.2 := by
  have hP : tP (dT d) ≤ 6 := ok.1.1
  have h7 : 7 ^ tP (dT d) ≤ 117649 := Nat.pow_le_pow_right (n := 7) (by omega) hP
  obtain ⟨r0, b1, b2, b3⟩ := ref_best (n := tP (dT d)) (fb := fbD d a) hP fbC_sym
  obtain ⟨τ, t1, t2, t3, t4⟩ := r_m35 (a := a) ok ha (show 8 < N by omega) h7 (7 ^ tP (dT d)) 0 none N σ (by omega) (by omega) h (fun x hx => by cases hx)
  rw [b1] at t1 t2
  have hm : mC (tP (dT d)) (fbD d a) ≤ tP (dT d) := mk_le _ _
  refine ⟨τ, ?_, fun i hi => by rw [t2 r0 rfl i hi, b2 i hi], t3, t4⟩
  unfold m_X11_mostPairs g_lt
  rw [h.1.1.1]
  dsimp only
  rw [show (1 : Int32) = nI (7 ^ 0) from rfl, show (0 : Int32) = nI 0 from rfl, r_m12 hP (tP (dT d)) 0 N (by omega) (by omega)]
  have e : mv (tP (dT d)) (some r0) / 2 = nI (mC (tP (dT d)) (fbD d a)) := by
    show nI (cn (tP (dT d)) (dg (tP (dT d)) r0)) / nI 2 = _
    rw [b3, pk_div (by omega) (by omega) (by omega), Nat.mul_div_cancel_left _ (by omega)]
  rw [e] at t1
  exact t1
def cpA (d : Dt) (a : Nat) : Option Nat → Int32
  | none => nI (mC (tP (dT d)) (fbD d a))
  | some q => dl (gC (tP (dT d)) (fbD d a) q)
theorem sp_couples (N : Nat) (hN : 117700 < N) (x y : Int32) : Sp (m_X10_couples N x y) (m_X11_couples N x y) := by
  intro d ok
  have hP6 : tP (dT d) ≤ 6 := ok.1.1
  have e0 : (0 : Int64) = (nI 0).toInt64 := by decide
  have e99 : (99 : Int64) = (nI 99).toInt64 := by decide
  rcases o_cases y (tP (dT d)) (by omega) with ⟨o, rfl, ho⟩ | ⟨hy1, hy2⟩
  · have cpre : ∀ σ, CC d σ → m_X10_couples N x (plv o) σ = (if x < 0 then some ((-1000000002 : Int32), σ) else (if x ≤ (99 : Int32) then ((m_X9_match N x σ).bind fun σ5 => (if plv o = (-1 : Int32) then some ((σ5.1 63 3), σ5) else (if g_in (plv o) 6 then some ((σ5.1 66 (plv o).toNatClampNeg), σ5) else none))) else some ((-1000000002 : Int32), σ))) := fun σ h => by
      unfold m_X10_couples
      rw [c_isPN o h.1.1.1 (by omega) ho, Option.bind_some]
      dsimp only
      rw [if_neg n10]
    have rpre : ∀ σ, RR d σ → m_X11_couples N x (plv o) σ = m_X11_couples_16 N x (plv o) σ := fun σ h => by
      unfold m_X11_couples
      cases o with
      | none => rw [if_pos (show plv none = -1 from rfl)]
      | some q =>
        have hq := ho q rfl
        rw [if_neg (show ¬ plv (some q) = -1 by show ¬ nI q = -1; rw [u_m1 (by omega)]; exact id), show plv (some q) = nI q from rfl, r_isP (nI q) h.1.1.1 (by omega), Option.bind_some]
        dsimp only
        rw [if_pos (a_in hq (by omega)), if_neg n10]
    rcases rng_cases x 0 99 (by omega) (by omega) with ⟨a, h1, h2, rfl⟩ | hx
    · refine ⟨cpA d a o, d, ok, fun σ h => ?_, fun σ h => ?_⟩
      · obtain ⟨τ, t1, t2, t3, t4, t5⟩ := c_m3 (N := N) (a := a) ok h2 (by omega) (tP (dT d)) 0 N σ (by omega) (by omega) h.1.1 h.1.2.1 (fun q hq => by omega)
        refine ⟨τ, ?_, CC_ch h (fun c hc => t4 c (by omega)), fun c hc => ⟨t4 c (by omega), by rw [t5]⟩⟩
        rw [cpre σ h, if_neg (nI_pos (by omega)), if_pos (show nI a ≤ (99 : Int32) from a_le 99 h2 (by omega))]
        unfold m_X9_match
        rw [show (0 : Int32) = nI 0 from rfl, t1, Option.bind_some]
        cases o with
        | none => rw [if_pos (show plv none = -1 from rfl), t2]; rfl
        | some q =>
          have hq := ho q rfl
          rw [if_neg (show ¬ plv (some q) = -1 by show ¬ nI q = -1; rw [u_m1 (by omega)]; exact id), show plv (some q) = nI q from rfl, if_pos (a_in (by omega) (by omega)), nI_clamp (by omega), t3 q hq]; rfl
      · obtain ⟨τ, t1, t2, t3, t4⟩ := r_most (N := N) ok h2 hN h
        refine ⟨τ, ?_, RR_fr h (fun c _ _ _ _ _ c1 c2 => t3 c c1 c2), fun c hc => ⟨t3 c (by omega) (by omega), by rw [t4]⟩⟩
        rw [rpre σ h]
        unfold m_X11_couples_16
        rw [e0, e99, r_inR, Option.bind_some]
        dsimp only
        rw [if_pos (show nI 0 ≤ nI a ∧ nI a ≤ nI 99 from ⟨a_le a h1 (by omega), a_le 99 h2 (by omega)⟩), if_neg n10, t1, Option.bind_some]
        dsimp only
        cases o with
        | none => rw [if_pos (show plv none = -1 from rfl)]; rfl
        | some q =>
          have hq := ho q rfl
          rw [if_neg (show ¬ plv (some q) = -1 by show ¬ nI q = -1; rw [u_m1 (by omega)]; exact id), show plv (some q) = nI q from rfl, if_pos (a_in (by omega) (by omega)), nI_clamp (by omega), t2 q hq]; rfl
    · refine ⟨-1000000002, d, ok, fun σ h => ⟨σ, ?_, h, keepR_rf σ⟩, fun σ h => ⟨σ, ?_, h, keepC_rf σ⟩⟩
      · rw [cpre σ h]
        by_cases q : x < 0
        · rw [if_pos q]
        · rw [if_neg q, if_neg (show ¬ x ≤ (99 : Int32) from fun q2 => hx ⟨lt_nle q, q2⟩)]
      · rw [rpre σ h]
        unfold m_X11_couples_16
        rw [e0, e99, r_inR, Option.bind_some]
        dsimp only
        rw [if_neg hx, if_pos rfl]
  · refine ⟨-1000000001, d, ok, fun σ h => ⟨σ, ?_, h, keepR_rf σ⟩, fun σ h => ⟨σ, ?_, h, keepC_rf σ⟩⟩
    · unfold m_X10_couples
      rw [c_isPNo h.1.1.1 (by omega) hy1 hy2, Option.bind_some, if_pos rfl]
    · unfold m_X11_couples
      rw [if_neg hy1, r_isP y h.1.1.1 (by omega), Option.bind_some]
      dsimp only
      rw [if_neg hy2, if_pos rfl]
