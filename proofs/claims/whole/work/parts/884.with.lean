/-! odds with return -/
theorem sL_k {σ : g_St} {c k : Nat} {v : Int64} : (g_sL σ c k v).2 c k = v := by simp [g_sL, va_up, vp_updL]
theorem sL_n {σ : g_St} {c k j : Nat} {v : Int64} (h : j ≠ k) : (g_sL σ c k v).2 c j = σ.2 c j := by simp [g_sL, va_up, vp_updL, h]
def stW (A B c : Nat) (t : Nat → Nat) : Nat → Nat := fun j => if j = c then t c - t c * A / B else if j = c + 1 then t (c + 1) + t c * A / B else t j
def wIn (A B : Nat) : Nat → (Nat → Nat) → Nat → Nat
  | 0, t => t
  | c + 1, t => wIn A B c (stW A B c t)
def wOut (A B : Nat) : Nat → Nat → (Nat → Nat) → Nat → Nat
  | 0, _, t => t
  | m + 1, k, t => wOut A B m (k + 1) (wIn A B (k + 1) t)
theorem stW_c (A B c : Nat) (t : Nat → Nat) : stW A B c t c = t c - t c * A / B := if_pos rfl
theorem stW_d (A B c : Nat) (t : Nat → Nat) : stW A B c t (c + 1) = t (c + 1) + t c * A / B := by unfold stW; rw [if_neg (by omega), if_pos rfl]
theorem stW_o {A B c j : Nat} {t : Nat → Nat} (h1 : j ≠ c) (h2 : j ≠ c + 1) : stW A B c t j = t j := by unfold stW; rw [if_neg h1, if_neg h2]
theorem stW_sum {A B c M : Nat} {t : Nat → Nat} (hA : A ≤ B) (hB : 0 < B) (hc : c + 1 < M) : sg M (stW A B c t) = sg M t := by
  have hm : t c * A / B ≤ t c := gstep_le hA hB
  have e1 : sg M t = sg M (fun j => if j = c then t c - t c * A / B else t j) + t c * A / B := by
    refine sg_up (u0 := c) M (by omega) (fun u hu hne => by rw [if_neg hne]) ?_
    rw [if_pos rfl]; omega
  have e2 : sg M (stW A B c t) = sg M (fun j => if j = c then t c - t c * A / B else t j) + t c * A / B := by
    refine sg_up (u0 := c + 1) M (by omega) (fun u hu hne => ?_) ?_
    · by_cases e : u = c
      · subst e; rw [stW_c, if_pos rfl]
      · rw [stW_o e hne, if_neg e]
    · rw [stW_d, if_neg (by omega)]
  omega
def WI (M : Nat) (t : Nat → Nat) : Prop := sg M t ≤ 1000000000 ∧ t 9 = 0
theorem WI_st {A B c M : Nat} {t : Nat → Nat} (hM : M = 10) (hA : A ≤ B) (hB : 0 < B) (hc : c < 8) (h : WI M t) : WI M (stW A B c t) := ⟨by rw [stW_sum hA hB (by omega)]; exact h.1, by rw [stW_o (by omega) (by omega)]; exact h.2⟩
theorem WI_in {A B M : Nat} (hM : M = 10) (hA : A ≤ B) (hB : 0 < B) : ∀ c t, c ≤ 8 → WI M t → WI M (wIn A B c t)
  | 0, t, _, h => h
  | c + 1, t, hc, h => WI_in hM hA hB c (stW A B c t) (by omega) (WI_st hM hA hB (by omega) h)
theorem WI_out {A B M : Nat} (hM : M = 10) (hA : A ≤ B) (hB : 0 < B) : ∀ m k t, k + m ≤ 8 → WI M t → WI M (wOut A B m k t)
  | 0, k, t, _, h => h
  | m + 1, k, t, hk, h => WI_out hM hA hB m (k + 1) _ (by omega) (WI_in hM hA hB (k + 1) t (by omega) h)
def t0W : Nat → Nat := fun j => if j = 0 then 1000000000 else 0
theorem WI_0 {M : Nat} (hM : M = 10) : WI M t0W := by
  refine ⟨?_, rfl⟩
  have e : sg M t0W = sg M (fun _ => 0) + 1000000000 := by
    refine sg_up (u0 := 0) M (by omega) (fun u hu hne => ?_) ?_
    · unfold t0W; rw [if_neg hne]
    · unfold t0W; rw [if_pos rfl, Nat.zero_add]
  rw [e, sg_0 M (fun u _ => rfl), Nat.zero_add]
  exact Nat.le_refl _
def ta (t : Nat → Nat) : Nat → Nat → Nat → Nat
  | 0, _, a => a
  | m + 1, k, a => ta t m (k + 1) (a + t k)
theorem ta_sg (t : Nat → Nat) : ∀ m k a, ta t m k a + sg k t = a + sg (k + m) t
  | 0, k, a => rfl
  | m + 1, k, a => by
    have h := ta_sg t m (k + 1) (a + t k)
    rw [sg_s] at h
    rw [show k + (m + 1) = k + 1 + m by omega]
    show ta t m (k + 1) (a + t k) + sg k t = _
    omega
theorem ta_9 {t : Nat → Nat} {v : Nat} (h9 : t 9 = 0) (hv : v ≤ 9) : ta t (10 - v) v 0 = ta t (9 - v) v 0 := by
  have h1 := ta_sg t (10 - v) v 0
  have h2 := ta_sg t (9 - v) v 0
  rw [show v + (10 - v) = 9 + 1 by omega, sg_s, h9] at h1
  rw [show v + (9 - v) = 9 by omega] at h2
  omega
def nW (B n : Nat) : Nat := if B = 0 then 0 else n
/-- odds with return, of at least v -/
def oW (A B n v : Nat) : Nat := ta (wOut A B (nW B n) 0 t0W) (9 - v) v 0
theorem oW_le {A B n v : Nat} (hA : A ≤ B) (hn : n ≤ 8) : oW A B n v ≤ 1000000000 := by
  obtain ⟨M, hM⟩ : ∃ M, M = 10 := ⟨10, rfl⟩
  unfold oW
  have hw : WI M (wOut A B (nW B n) 0 t0W) := by
    unfold nW
    by_cases e : B = 0
    · rw [if_pos e]; exact WI_0 hM
    · rw [if_neg e]; exact WI_out hM hA (by omega) n 0 t0W (by omega) (WI_0 hM)
  have h1 := ta_sg (wOut A B (nW B n) 0 t0W) (9 - v) v 0
  by_cases hv : v ≤ 9
  · rw [show v + (9 - v) = 9 by omega] at h1
    have := sg_mono (F := wOut A B (nW B n) 0 t0W) (j := 9) M (by omega)
    have := hw.1
    omega
  · rw [show 9 - v = 0 by omega] at *
    show 0 ≤ _
    omega
def h10 (σ : g_St) (t : Nat → Nat) : Prop := ∀ j, j < 10 → σ.1 83 j = nI (t j)
theorem em1 (j : Nat) : nI j + (-1 : Int32) = nI j - 1 := by
  cases j with
  | zero => decide
  | succ j => rw [pk_m1, nI_pred]
theorem r_w69 {A B M N : Nat} (hM : M = 10) (hA : A ≤ B) (hB : 0 < B) (hB2 : B ≤ 100) {k : Nat} {a b : Int32} {k54 : Int32 → Int32 → Int32 → Int32 → Int32 → g_St → Option (Int32 × g_St)} : ∀ c t σ fu, WI M t → h10 σ t → c ≤ 8 → c < fu → ∃ τ, m_X11_oddsWith_69 k54 N fu a b (nI A) (nI B) (nI k) (nI c - 1) σ = k54 a b (nI A) (nI B) (nI (k + 1)) τ ∧ h10 τ (wIn A B c t) ∧ (∀ c, c ≠ 83 → τ.1 c = σ.1 c) ∧ τ.2 = σ.2 := by
  intro c
  induction c with
  | zero =>
    intro t σ fu hw h hc hf
    obtain ⟨fu, rfl⟩ : ∃ f, fu = f + 1 := ⟨fu - 1, by omega⟩
    refine ⟨σ, ?_, h, fun c _ => rfl, rfl⟩
    unfold m_X11_oddsWith_69 g_lt
    rw [if_pos (show nI 0 - 1 < (0 : Int32) by decide), nI_1]
  | succ c ih =>
    intro t σ fu hw h hc hf
    obtain ⟨fu, rfl⟩ : ∃ f, fu = f + 1 := ⟨fu - 1, by omega⟩
    have hm : t c * A / B ≤ t c := gstep_le hA hB
    have htc : t c ≤ 1000000000 := Nat.le_trans (sg_mem M (by omega)) hw.1
    have i1 : g_in (nI c) 10 := a_in (by omega) (by omega)
    have i2 : g_in (nI (c + 1)) 10 := a_in (by omega) (by omega)
    obtain ⟨τ, t1, t2, t3, t4⟩ := ih (stW A B c t) (g_sI (g_sI σ 83 c (nI (t c - t c * A / B))) 83 (c + 1) (nI (t (c + 1) + t c * A / B))) fu (WI_st hM hA hB (by omega) hw) (fun j hj => by
      by_cases e1 : j = c
      · subst e1; rw [stW_c, sI_n (by omega), sI_k]
      · by_cases e2 : j = c + 1
        · subst e2; rw [stW_d, sI_k]
        · rw [stW_o e1 e2, sI_n e2, sI_n e1]; exact h j hj) (by omega) (by omega)
    refine ⟨τ, ?_, t2, fun c hc => by rw [t3 c hc]; simp (disch := omega) only [sI_o, sI_k, sI_n, sA_o, sA_s, sI_2, sA_2, sL_1, sL_o], t4⟩
    rw [← t1]
    conv => lhs; unfold m_X11_oddsWith_69 g_lt
    dsimp only
    rw [nI_pred, if_neg (nI_pos (by omega)), if_pos i1, if_neg (g_ne (by omega) hB), nI_clamp (by omega), h c (by omega), part_i htc (by omega) hB hB2, if_pos i1, if_pos i1, pk_sub hm, nI_1, if_pos i2, if_pos i2, nI_clamp (by omega), sI_n (show c + 1 ≠ c by omega), h (c + 1) (by omega), nI_add, em1]
theorem r_w139 {σ : g_St} {t : Nat → Nat} {N : Nat} (h : h10 σ t) : ∀ m k a fu, k + m = 10 → m < fu → m_X11_oddsWith_139 N fu (nI a) (nI k) σ = some (nI (ta t m k a), σ) := by
  intro m
  induction m with
  | zero =>
    intro k a fu hk hf
    obtain ⟨fu, rfl⟩ : ∃ f, fu = f + 1 := ⟨fu - 1, by omega⟩
    unfold m_X11_oddsWith_139
    rw [if_pos (show (10 : Int32) ≤ nI k from a_le (a := 10) k (by omega) (by omega))]
    rfl
  | succ m ih =>
    intro k a fu hk hf
    obtain ⟨fu, rfl⟩ : ∃ f, fu = f + 1 := ⟨fu - 1, by omega⟩
    unfold m_X11_oddsWith_139 g_lt
    rw [if_neg (show ¬ (10 : Int32) ≤ nI k from a_nle (a := 10) k (by omega) (by omega)), if_pos (a_in (by omega) (by omega)), nI_clamp (by omega), h k (by omega), nI_add, nI_1]
    exact ih (k + 1) (a + t k) fu (by omega) (by omega)
theorem r_w54 {A B M N n v : Nat} (hM : M = 10) (hA : A ≤ B) (hB2 : B ≤ 100) (hn : n ≤ 8) (hv : v ≤ 8) (hN : 20 < N) : ∀ m k t σ fu, k + m = n → m < fu → WI M t → h10 σ t → ∃ τ, m_X11_oddsWith_54 N fu (nI v) (nI n) (nI A) (nI B) (nI k) σ = some (nI (ta (wOut A B (nW B m) k t) (10 - v) v 0), τ) ∧ (∀ c, c ≠ 83 → τ.1 c = σ.1 c) ∧ τ.2 = σ.2 := by
  have fin : ∀ t σ, h10 σ t → m_X11_oddsWith_133 N (nI v) σ = some (nI (ta t (10 - v) v 0), σ) := fun t σ h => by
    unfold m_X11_oddsWith_133
    exact r_w139 h (10 - v) v 0 N (by omega) (by omega)
  intro m
  induction m with
  | zero =>
    intro k t σ fu hk hf hw h
    obtain ⟨fu, rfl⟩ : ∃ f, fu = f + 1 := ⟨fu - 1, by omega⟩
    refine ⟨σ, ?_, fun c _ => rfl, rfl⟩
    unfold m_X11_oddsWith_54
    rw [if_pos (a_le k (by omega) (by omega)), fin t σ h]
    unfold nW; rw [ite_self]; rfl
  | succ m ih =>
    intro k t σ fu hk hf hw h
    obtain ⟨fu, rfl⟩ : ∃ f, fu = f + 1 := ⟨fu - 1, by omega⟩
    by_cases h0 : B = 0
    · refine ⟨σ, ?_, fun c _ => rfl, rfl⟩
      unfold m_X11_oddsWith_54
      rw [if_neg (a_nle (a := n) k (by omega) (by omega)), h0, if_pos (show nI 0 ≤ (0 : Int32) by decide), fin t σ h]
      rfl
    · obtain ⟨x, x1, x2, x3, x4⟩ := r_w69 (N := N) (k := k) (a := nI v) (b := nI n) (k54 := m_X11_oddsWith_54 N fu) hM hA (by omega) hB2 (k + 1) t σ N hw h (by omega) (by omega)
      obtain ⟨τ, t1, t3, t4⟩ := ih (k + 1) (wIn A B (k + 1) t) x fu (by omega) (by omega) (WI_in hM hA (by omega) (k + 1) t (by omega) hw) x2
      refine ⟨τ, ?_, fun c hc => (t3 c hc).trans (x3 c hc), t4.trans x4⟩
      unfold nW at *
      rw [if_neg h0] at *
      show _ = some (nI (ta (wOut A B m (k + 1) (wIn A B (k + 1) t)) (10 - v) v 0), τ)
      rw [← t1, ← x1, nI_pred]
      conv => lhs; unfold m_X11_oddsWith_54
      rw [if_neg (a_nle (a := n) k (by omega) (by omega)), if_neg (nI_nle (by omega) (by omega))]
theorem r_w3 {N : Nat} {a b c : Int32} : ∀ m x fu σ, x + m = 10 → m < fu → (∀ y, y < x → σ.1 83 y = nI (t0W y)) → ∃ τ, m_X11_oddsWith_3 N fu a b c (nI x) σ = ((m_X11_weightOf N a τ).bind fun q2 => ((m_X11_all q2.2).bind fun q3 => ((m_X11_weightOf N q3.1 q3.2).bind fun q4 => m_X11_oddsWith_54 N N b c q2.1 q4.1 (0 : Int32) q4.2))) ∧ h10 τ t0W ∧ (∀ c, c ≠ 83 → τ.1 c = σ.1 c) ∧ τ.2 = σ.2 := by
  intro m
  induction m with
  | zero =>
    intro x fu σ hx hf h
    obtain ⟨fu, rfl⟩ : ∃ f, fu = f + 1 := ⟨fu - 1, by omega⟩
    refine ⟨σ, ?_, fun y hy => h y (by omega), fun c _ => rfl, rfl⟩
    unfold m_X11_oddsWith_3
    rw [if_pos (show (10 : Int32) ≤ nI x from a_le (a := 10) x (by omega) (by omega))]
  | succ m ih =>
    intro x fu σ hx hf h
    obtain ⟨fu, rfl⟩ : ∃ f, fu = f + 1 := ⟨fu - 1, by omega⟩
    obtain ⟨τ, t1, t2, t3, t4⟩ := ih (x + 1) fu (g_sI σ 83 x (nI (t0W x))) (by omega) (by omega) (fun y hy => by
      by_cases e : y = x
      · subst e; rw [sI_k]
      · rw [sI_n e]; exact h y (by omega))
    refine ⟨τ, ?_, t2, fun c hc => by rw [t3 c hc]; simp (disch := omega) only [sI_o, sI_k, sI_n, sA_o, sA_s, sI_2, sA_2, sL_1, sL_o], t4⟩
    rw [← t1]
    conv => lhs; unfold m_X11_oddsWith_3 m_X11_oddsWith_27 g_lt
    rw [if_neg (show ¬ (10 : Int32) ≤ nI x from a_nle (a := 10) x (by omega) (by omega))]
    simp only [if_pos (a_in (show x < 10 by omega) (show x < 2 ^ 31 by omega)), nI_clamp (show x < 2 ^ 31 by omega), nI_1]
    by_cases e : x = 0
    · rw [if_pos (show nI x = 0 by rw [e]; rfl)]; unfold t0W; rw [if_pos e, b_B]
    · rw [if_neg (nI_ne0 (by omega) (by omega))]; unfold t0W; rw [if_neg e]; rfl
theorem wsm_sub {w : Nat → Nat} {S T : Nat} : ∀ K, (∀ t, t < K → bt S t = true → bt T t = true) → wsm w S K ≤ wsm w T K
  | 0, _ => Nat.le_refl _
  | K + 1, h => by
    have h1 := wsm_sub (w := w) K (fun t ht => h t (by omega))
    rw [wsm_s, wsm_s]
    by_cases hb : bt S K = true
    · rw [if_pos hb, if_pos (h K (by omega) hb)]; omega
    · rw [if_neg hb]; omega
theorem wsm_all {w : Nat → Nat} {K S : Nat} (hK : K ≤ 8) : wsm w S K ≤ wsm w (2 ^ K - 1) K := wsm_sub K (fun t ht _ => bt_all K (by omega) t ht)
theorem r_oddsWith {w : Tw} {N M v n : Nat} {σ : g_St} (hw : TwOK w) (hM : M < 256) (hv : v ≤ 8) (hn : n ≤ 8) (hN : 20 < N) (hT : RT w (σ.1 79)) : ∃ τ, m_X11_oddsWith N (nI M) (nI v) (nI n) σ = some (nI (oW (wsm (tW w) M (tK w)) (wsm (tW w) (2 ^ tK w - 1) (tK w)) n v), τ) ∧ (∀ c, c ≠ 83 → τ.1 c = σ.1 c) ∧ τ.2 = σ.2 := by
  have hK := hw.2.1
  obtain ⟨m, hm⟩ : ∃ M, M = 10 := ⟨10, rfl⟩
  have hB := wsm_le (w := tW w) (S := 2 ^ tK w - 1) (b := 9) (tK w) (fun t ht => (hw.2.2.2.2.2.2.1 t ht).2)
  have hA := wsm_all (w := tW w) (S := M) hK
  obtain ⟨x, x1, x2, x3, x4⟩ := r_w3 (N := N) (a := nI M) (b := nI v) (c := nI n) 10 0 N σ (by omega) (by omega) (fun y hy => by omega)
  have hT' : RT w (x.1 79) := by rw [x3 79 (by omega)]; exact hT
  obtain ⟨τ, t1, t3, t4⟩ := r_w54 (N := N) (A := wsm (tW w) M (tK w)) (B := wsm (tW w) (2 ^ tK w - 1) (tK w)) hm hA (by omega) hn hv hN n 0 t0W x N (by omega) (by omega) (WI_0 hm) x2
  refine ⟨τ, ?_, fun c hc => (t3 c hc).trans (x3 c hc), t4.trans x4⟩
  have e9 : ta (wOut (wsm (tW w) M (tK w)) (wsm (tW w) (2 ^ tK w - 1) (tK w)) (nW (wsm (tW w) (2 ^ tK w - 1) (tK w)) n) 0 t0W) (10 - v) v 0 = oW (wsm (tW w) M (tK w)) (wsm (tW w) (2 ^ tK w - 1) (tK w)) n v := by
    refine ta_9 ?_ (by omega)
    unfold nW
    by_cases e : wsm (tW w) (2 ^ tK w - 1) (tK w) = 0
    · rw [if_pos e]; rfl
    · rw [if_neg e]; exact (WI_out hm hA (by omega) n 0 t0W (by omega) (WI_0 hm)).2
  rw [e9] at t1
  unfold m_X11_oddsWith
  rw [show (0 : Int32) = nI 0 from rfl, x1, r_wt hT'.2.1 hK hT'.2.2.2.2.2 hM (by omega), Option.bind_some]
  unfold m_X11_all
  rw [Option.bind_some]
  dsimp only
  rw [hT'.2.1, u_all (tK w) (by omega), r_wt hT'.2.1 hK hT'.2.2.2.2.2 (all_lt hK) (by omega), Option.bind_some]
  exact t1
