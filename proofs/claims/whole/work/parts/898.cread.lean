/-! the class reads letter by letter -/
def CS (S : Sx) (σ : g_St) : Prop := (σ.1 3 2 = nI (tP (sW S)) ∧ σ.1 3 3 = nI (tK (sW S)) ∧ σ.1 3 4 = nI (tY (sW S)) ∧ σ.1 3 5 = nI (tR (sW S))) ∧ (σ.1 2 8 = nI (sYt S) ∧ σ.1 2 9 = nI (sRt S)) ∧ (∀ r, r < 4 → σ.1 5 r = nI (tG (sW S) r)) ∧ (∀ t, t < tK (sW S) → σ.1 4 t = nI (tW (sW S) t) ∧ σ.1 9 t = nI (sH S t) ∧ σ.1 11 t = nI (sPr S t)) ∧ (∀ p, p < tP (sW S) → σ.1 7 p = nI (sA S p) ∧ σ.1 8 p = nI (sC S p))
theorem CS_k {S : Sx} {σ τ : g_St} (h : CS S σ) (k : ∀ c, 2 < c → c < 12 → c ≠ 6 → τ.1 c = σ.1 c) (k8 : τ.1 2 8 = σ.1 2 8) (k9 : τ.1 2 9 = σ.1 2 9) : CS S τ := by
  unfold CS at *
  rw [k 3 (by omega) (by omega) (by omega), k 4 (by omega) (by omega) (by omega), k 5 (by omega) (by omega) (by omega), k 7 (by omega) (by omega) (by omega), k 8 (by omega) (by omega) (by omega), k 9 (by omega) (by omega) (by omega), k 11 (by omega) (by omega) (by omega), k8, k9]
  exact h
def QS (S : Sx) (c k : Nat) (f : Nat → Nat) (σ : g_St) : Prop := CS S σ ∧ (σ.1 2 3 = nI c ∧ σ.1 2 4 = nI k ∧ σ.1 2 5 = 0) ∧ (σ.1 2 10 = 0 ∧ σ.1 2 11 = -1) ∧ (∀ i, i < k → σ.1 12 i = nI (f i))
def EF (σ0 σ : g_St) : Prop := (∀ c, c < 2 ∨ c = 6 ∨ c = 10 ∨ 12 < c → σ.1 c = σ0.1 c) ∧ σ.2 = σ0.2
theorem EF_rf (σ : g_St) : EF σ σ := ⟨fun _ _ => rfl, rfl⟩
theorem EF_tr {σ τ υ : g_St} (h1 : EF σ τ) (h2 : EF τ υ) : EF σ υ := ⟨fun c hc => (h2.1 c hc).trans (h1.1 c hc), h2.2.trans h1.2⟩
theorem EF_I {σ0 σ : g_St} {c k : Nat} {v : Int32} (h : EF σ0 σ) (hc : 1 < c ∧ c ≠ 6 ∧ c ≠ 10 ∧ c < 13) : EF σ0 (g_sI σ c k v) := ⟨fun j hj => by rw [sI_o (by omega)]; exact h.1 j hj, by rw [sI_2]; exact h.2⟩
/-- how reading ends -/
def RsE (σ0 τ : g_St) : Prop := (∀ c, c < 2 ∨ c = 10 ∨ 12 < c → τ.1 c = σ0.1 c) ∧ (∀ j, j ≠ 5 → τ.1 6 j = σ0.1 6 j) ∧ τ.2 = σ0.2
def RsF (σ0 : g_St) (k p : Nat) (R : Option (Int32 × g_St)) : Prop := ∃ τ, R = some (nI k, τ) ∧ τ.1 2 11 = nI p ∧ RsE σ0 τ
def RsT (σ0 : g_St) (S : Sx) (R : Option (Int32 × g_St)) : Prop := ∃ τ, R = some (0, τ) ∧ τ.1 2 11 = -1 ∧ CS S τ ∧ τ.1 6 5 = nI (2 ^ tK (sW S) - 1) ∧ RsE σ0 τ
def Rs (σ0 : g_St) : Sum (Nat × Nat) Sx → Option (Int32 × g_St) → Prop
  | .inl (k, p) => RsF σ0 k p
  | .inr S => RsT σ0 S
def RunP (N n a : Nat) (σ : g_St) (P : Option (Int32 × g_St) → Prop) : Prop := ∀ fu, n - a < fu → P (m_X6_read_1_6 N fu (nI n) (nI a) σ)
theorem run_fault {N n a k p : Nat} {σ0 σ : g_St} (hn : n ≤ 250) (ha : a ≤ n) (hE : EF σ0 σ) (hk : 1 ≤ k) (hk3 : k ≤ 3) (h10 : σ.1 2 10 = nI k) (h11 : σ.1 2 11 = nI p) : RunP N n a σ (RsF σ0 k p) := fun fu hf => by
  obtain ⟨fu, rfl⟩ : ∃ f, fu = f + 1 := ⟨fu - 1, by omega⟩
  have h0 : ¬ σ.1 2 10 = 0 := by rw [h10]; exact nI_ne0 (by omega) (by omega)
  have e : m_X6_read_1_6 N (fu + 1) (nI n) (nI a) σ = m_X6_read_1_69 N σ := by
    have e38 : m_X6_read_1_38 N (nI n) σ = m_X6_read_1_69 N σ := by
      unfold m_X6_read_1_38 m_X6_read_1_49
      rw [if_neg h0, if_neg h0]
    unfold m_X6_read_1_6
    rw [if_neg h0, e38, ite_self, ite_self]
  rw [e]
  refine ⟨g_sI σ 6 5 (((1 : Int32) <<< ((σ.1 3 3) &&& 31)) - (1 : Int32)), ?_, by simp (disch := omega) only [sI_o, sI_k, sI_n, sA_o, sA_s, sI_2, sA_2, sL_1, sL_o]; exact h11, fun c hc => ?_, fun j hj => ?_, by rw [sI_2]; exact hE.2⟩
  · unfold m_X6_read_1_69 m_X7_everyTicket_3 g_lt
    rw [Option.bind_some]
    dsimp only
    rw [sI_o (by omega), h10]
  · rw [sI_o (by omega)]; exact hE.1 c (by omega)
  · rw [sI_n hj]; rw [hE.1 6 (by omega)]
theorem run_step {N n a : Nat} {x : Nat → Nat} {σ σ' : g_St} {P : Option (Int32 × g_St) → Prop} (hn : n ≤ 250) (ha : a < n) (hx : σ.1 1 a = nI (x a)) (h10 : σ.1 2 10 = 0) (ht : m_X6_takeLetter (nI (x a)) (nI a) σ = some σ') (h : RunP N n (a + 1) σ' P) : RunP N n a σ P := fun fu hf => by
  obtain ⟨fu, rfl⟩ : ∃ f, fu = f + 1 := ⟨fu - 1, by omega⟩
  have e : m_X6_read_1_6 N (fu + 1) (nI n) (nI a) σ = m_X6_read_1_6 N fu (nI n) (nI (a + 1)) σ' := by
    conv => lhs; unfold m_X6_read_1_6 g_lt
    rw [if_neg (a_nle (a := n) a (by omega) (by omega)), if_neg (show ¬ (250 : Int32) ≤ nI a from a_nle (a := 250) a (by omega) (by omega)), if_pos h10, if_pos (a_in (by omega) (by omega)), nI_clamp (by omega), hx, ht, Option.bind_some]
    dsimp only
    rw [nI_1]
  rw [e]
  exact h fu (by omega)
theorem nd_c {c : Nat} (hc : c < 256) (h : isD c = false) : nI c < (48 : Int32) ∨ (57 : Int32) < nI c := by
  unfold isD at h
  simp only [decide_eq_false_iff_not] at h
  by_cases q : c < 48
  · exact Or.inl (a_lt 48 q (by omega))
  · exact Or.inr (a_lt (a := 57) c (by omega) (by omega))
theorem tl_22 {c : Nat} {y : Int32} {σ : g_St} (hc : c < 256) (h : isD c = false) : m_X6_takeLetter (nI c) y σ = m_X6_takeLetter_22 (nI c) y σ := by
  unfold m_X6_takeLetter
  rcases nd_c hc h with q | q
  · rw [if_pos q]
  · rw [if_pos q, ite_self]
theorem cl_0 {σ : g_St} (h : σ.1 2 5 = 0) : m_X6_closeNumber σ = some σ := by unfold m_X6_closeNumber; rw [if_pos h]
theorem run_skip {N n : Nat} {x : Nat → Nat} {σ : g_St} {P : Option (Int32 × g_St) → Prop} (hn : n ≤ 250) (hx : ∀ i, i < n → σ.1 1 i = nI (x i)) (h10 : σ.1 2 10 = 0) (h5 : σ.1 2 5 = 0) : ∀ m a, n - a ≤ m → RunP N n (skp x n a) σ P → RunP N n a σ P
  | 0, a, h, hr => by rw [skp_n (by omega)] at hr; exact hr
  | m + 1, a, h, hr => by
    by_cases c : a < n ∧ x a = 32
    · rw [skp_y c.1 c.2] at hr
      refine run_step (x := x) (σ' := σ) hn c.1 (hx a c.1) h10 ?_ (run_skip hn hx h10 h5 m (a + 1) (by omega) hr)
      rw [c.2, tl_22 (by omega) (by decide)]
      unfold m_X6_takeLetter_22
      rw [cl_0 h5, Option.bind_some, if_pos h10, if_pos (show nI 32 = (32 : Int32) from rfl)]
    · rw [skp_n c] at hr; exact hr
theorem numbersOf_c {c : Nat} {σ : g_St} (hc : c < 256) : m_X6_numbersOf (nI c) σ = some (nI (nOf c), σ) := by
  unfold m_X6_numbersOf nOf
  by_cases h1 : c = 112
  · subst h1; rfl
  · rw [if_neg (show ¬ nI c = (112 : Int32) from a_ne 112 h1 (by omega) (by omega)), if_neg h1]
    by_cases h2 : c = 114
    · subst h2; rfl
    · rw [if_neg (show ¬ nI c = (114 : Int32) from a_ne 114 h2 (by omega) (by omega)), if_neg h2]
      by_cases h3 : c = 116
      · subst h3; rfl
      · rw [if_neg (show ¬ nI c = (116 : Int32) from a_ne 116 h3 (by omega) (by omega)), if_neg h3]
        by_cases h4 : c = 121
        · subst h4; rfl
        · rw [if_neg (show ¬ nI c = (121 : Int32) from a_ne 121 h4 (by omega) (by omega)), if_neg h4]
          simp only [ite_self]
          rfl
/-- figures are being read -/
def DG (σ σ' : g_St) (b f v : Nat) : Prop := (σ'.1 2 5 = nI f ∧ σ'.1 2 6 = nI v ∧ σ'.1 2 7 = nI b) ∧ (∀ j, j ≠ 5 → j ≠ 6 → j ≠ 7 → σ'.1 2 j = σ.1 2 j) ∧ (∀ c, c ≠ 2 → σ'.1 c = σ.1 c) ∧ σ'.2 = σ.2
theorem tf_38 {σ σ' : g_St} {b f v c : Nat} (h : DG σ σ' b f v) (hf : f < 300) (hv : v < 1000) (hc : c ≤ 9) : ∃ τ, m_X6_takeFigure_38 (nI c) σ' = some τ ∧ DG σ τ b (f + 1) (if 2 < f then v else v * 10 + c) := by
  obtain ⟨⟨h5, h6, h7⟩, hj, hk, h2⟩ := h
  unfold m_X6_takeFigure_38 g_lt
  rw [h5, nI_1]
  dsimp only
  rw [sI_k]
  by_cases q : 2 < f
  · rw [if_pos (show (3 : Int32) < nI (f + 1) from a_lt (a := 3) (f + 1) (by omega) (by omega)), if_pos q]
    refine ⟨_, rfl, ⟨sI_k, by rw [sI_n (by omega)]; exact h6, by rw [sI_n (by omega)]; exact h7⟩, fun j j1 j2 j3 => by rw [sI_n j1]; exact hj j j1 j2 j3, fun c hc => by rw [sI_o hc]; exact hk c hc, by rw [sI_2]; exact h2⟩
  · rw [if_neg (show ¬ (3 : Int32) < nI (f + 1) from a_nlt (a := 3) (f + 1) (by omega) (by omega)), if_neg q, sI_n (by omega), h6, show nI v * (10 : Int32) = nI (v * 10) from pk_mul v 10, nI_add]
    refine ⟨_, rfl, ⟨by rw [sI_n (by omega), sI_k], sI_k, by rw [sI_n (by omega), sI_n (by omega)]; exact h7⟩, fun j j1 j2 j3 => by rw [sI_n j2, sI_n j1]; exact hj j j1 j2 j3, fun c hc => by rw [sI_o hc, sI_o hc]; exact hk c hc, by rw [sI_2, sI_2]; exact h2⟩
theorem tl_d {c : Nat} {y : Int32} {σ : g_St} (h : isD c = true) : m_X6_takeLetter (nI c) y σ = ((m_X6_takeFigure (nI (c - 48)) y σ).bind fun σ3 => some σ3) := by
  unfold isD at h
  simp only [decide_eq_true_eq] at h
  unfold m_X6_takeLetter
  rw [if_neg (show ¬ nI c < (48 : Int32) from a_nlt 48 h.1 (by omega)), if_neg (show ¬ (57 : Int32) < nI c from a_nlt (a := 57) c h.2 (by omega)), show nI c - (48 : Int32) = nI (c - 48) from pk_sub h.1]
theorem run_digits {N n b e : Nat} {x : Nat → Nat} {σ : g_St} {P : Option (Int32 × g_St) → Prop} (hn : n ≤ 250) (he : e ≤ n) (hx : ∀ i, i < n → σ.1 1 i = nI (x i)) (h10 : σ.1 2 10 = 0) (hd : ∀ j, b ≤ j → j < e → isD (x j) = true) : ∀ m i v σ', i + m = e → b < i → v < vbd (i - b) → DG σ σ' b (i - b) v → ∃ τ, DG σ τ b (e - b) (vC x b m i v) ∧ (RunP N n e τ P → RunP N n i σ' P) := by
  intro m
  induction m with
  | zero =>
    intro i v σ' hi hbi hv hD
    have : i = e := by omega
    subst this
    exact ⟨σ', hD, fun h => h⟩
  | succ m ih =>
    intro i v σ' hi hbi hv hD
    have hdi := hd i (by omega) (by omega)
    have hdi' := hdi
    unfold isD at hdi'
    simp only [decide_eq_true_eq] at hdi'
    have hvb := vbd_le (i - b)
    obtain ⟨y, y1, y2⟩ := tf_38 (c := x i - 48) hD (by omega) (by omega) (by omega)
    rw [show i - b + 1 = i + 1 - b by omega] at y2
    obtain ⟨τ, t1, t2⟩ := ih (i + 1) (if 2 < i - b then v else v * 10 + (x i - 48)) y (by omega) (by omega) (by
      rw [show i + 1 - b = i - b + 1 by omega]
      by_cases q : 2 < i - b
      · rw [if_pos q, vbd_3 (by omega)]; rw [vbd_3 q] at hv; exact hv
      · rw [if_neg q]; exact vbd_s (by omega) hv (by omega)) y2
    refine ⟨τ, by rw [vC_s]; exact t1, fun h => ?_⟩
    refine run_step (x := x) (σ' := y) hn (by omega) (by rw [hD.2.2.1 1 (by omega)]; exact hx i (by omega)) (by rw [hD.2.1 10 (by omega) (by omega) (by omega)]; exact h10) ?_ (t2 h)
    rw [tl_d hdi]
    unfold m_X6_takeFigure
    rw [hD.1.1, if_neg (nI_ne0 (by omega) (by omega)), y1, Option.bind_some]
theorem run_close {N n e : Nat} {x : Nat → Nat} {σ σ1 : g_St} {P : Option (Int32 × g_St) → Prop} (hn : n ≤ 250) (he : e ≤ n) (hx : ∀ i, i < n → σ.1 1 i = nI (x i)) (hx8 : ∀ i, i < n → x i < 256) (hnd : e < n → isD (x e) = false) (h10 : σ.1 2 10 = 0) (hc : m_X6_closeNumber σ = some σ1) (h5 : σ1.1 2 5 = 0) (hl : σ1.1 1 = σ.1 1) (h : RunP N n e σ1 P) : RunP N n e σ P := fun fu hf => by
  obtain ⟨fu, rfl⟩ : ∃ f, fu = f + 1 := ⟨fu - 1, by omega⟩
  have key : m_X6_read_1_6 N (fu + 1) (nI n) (nI e) σ = m_X6_read_1_6 N (fu + 1) (nI n) (nI e) σ1 := by
    by_cases q : e = n
    · have e38 : m_X6_read_1_38 N (nI n) σ = m_X6_read_1_38 N (nI n) σ1 := by
        unfold m_X6_read_1_38
        rw [if_pos h10, hc, Option.bind_some]
        by_cases z : σ1.1 2 10 = 0
        · rw [if_pos z, cl_0 h5, Option.bind_some]
        · rw [if_neg z]
      unfold m_X6_read_1_6
      rw [if_pos (a_le e (by omega) (by omega)), if_pos (a_le e (by omega) (by omega)), e38]
    · have hlt : e < n := by omega
      obtain ⟨fu', rfl⟩ : ∃ f, fu = f + 1 := ⟨fu - 1, by omega⟩
      conv => lhs; unfold m_X6_read_1_6 g_lt
      conv => rhs; unfold m_X6_read_1_6 g_lt
      rw [if_neg (a_nle (a := n) e (by omega) (by omega)), if_neg (show ¬ (250 : Int32) ≤ nI e from a_nle (a := 250) e (by omega) (by omega)), if_pos h10, if_neg (a_nle (a := n) e (by omega) (by omega)), if_neg (show ¬ (250 : Int32) ≤ nI e from a_nle (a := 250) e (by omega) (by omega)), if_pos (a_in (by omega) (by omega)), if_pos (a_in (by omega) (by omega)), nI_clamp (by omega), hl, hx e hlt, tl_22 (hx8 e hlt) (hnd hlt), tl_22 (hx8 e hlt) (hnd hlt)]
      by_cases z : σ1.1 2 10 = 0
      · rw [if_pos z]
        have e22 : m_X6_takeLetter_22 (nI (x e)) (nI e) σ = m_X6_takeLetter_22 (nI (x e)) (nI e) σ1 := by
          unfold m_X6_takeLetter_22
          rw [hc, Option.bind_some, cl_0 h5, Option.bind_some]
        rw [e22]
      · rw [if_neg z]
        have e22 : m_X6_takeLetter_22 (nI (x e)) (nI e) σ = some σ1 := by
          unfold m_X6_takeLetter_22
          rw [hc, Option.bind_some, if_neg z]
        rw [e22, Option.bind_some]
        unfold m_X6_read_1_6
        dsimp only
        rw [if_neg z, ite_self, ite_self]
  rw [key]
  exact h (fu + 1) hf
theorem c_least {c k : Nat} {σ : g_St} (hc : c < 256) (hk : k < 5) (h3 : σ.1 2 3 = nI c) (h4 : σ.1 2 4 = nI k) : m_X6_least σ = some (nI (rlo c k), σ) := by
  unfold m_X6_least m_X6_least_17 m_X6_least_33 m_X6_least_37 m_X6_least_38 rlo
  rw [h3, h4, if_neg n10, if_pos rfl]
  by_cases q1 : c = 116
  · subst q1
    rw [if_pos (show nI 116 = (116 : Int32) from rfl)]
    by_cases q2 : k = 1
    · subst q2; rfl
    · rw [if_neg (show ¬ nI k = (1 : Int32) from a_ne 1 q2 (by omega) (by omega)), if_neg (show ¬ nI 116 = (121 : Int32) by decide), if_neg (by omega)]; rfl
  · rw [if_neg (show ¬ nI c = (116 : Int32) from a_ne 116 q1 (by omega) (by omega))]
    by_cases q2 : c = 121
    · subst q2
      rw [if_pos (show nI 121 = (121 : Int32) from rfl)]
      by_cases q3 : k = 0
      · subst q3; rfl
      · rw [if_neg (nI_ne0 (by omega) (by omega)), if_neg (by omega)]; rfl
    · rw [if_neg (show ¬ nI c = (121 : Int32) from a_ne 121 q2 (by omega) (by omega)), if_neg (by omega)]; rfl
theorem lt_c {g v : Nat} (hg : g < 2000) (hv : v < 2000) : nI g < nI v ↔ g + 1 ≤ v := by
  constructor
  · intro h
    apply Classical.byContradiction
    intro z
    exact a_nlt v (by omega) (by omega) h
  · intro h; exact a_lt v (by omega) (by omega)
theorem lt_P {P v : Nat} (hP : P < 2000) (hv : v < 2000) : nI P - 1 < nI v ↔ P ≤ v := by
  cases P with
  | zero =>
    have : nI 0 - 1 < nI v := by
      rw [Int32.lt_iff_toInt_lt, nI_toInt (by omega)]
      have : (nI 0 - 1).toInt = -1 := by decide
      omega
    exact ⟨fun _ => by omega, fun _ => this⟩
  | succ P => rw [nI_pred]; exact lt_c (by omega) hv
theorem c_great {c k P v : Nat} {σ : g_St} (hc : isW c) (hk : k < nOf c) (hP : P ≤ 6) (hv : v < 1000) (h3 : σ.1 2 3 = nI c) (h4 : σ.1 2 4 = nI k) (h32 : σ.1 3 2 = nI P) : ∃ g, m_X6_greatest σ = some (g, σ) ∧ (g < nI v ↔ rhi c P k ≤ v) := by
  unfold m_X6_greatest m_X6_greatest_51 m_X6_greatest_71 rhi
  rw [h3, h4, h32]
  rcases hc with e | e | e | e <;> subst e
  · have hk2 : k < 2 := hk
    rcases (show k = 0 ∨ k = 1 by omega) with z | z <;> subst z
    · exact ⟨99, rfl, lt_c (g := 99) (by omega) (by omega)⟩
    · exact ⟨999, rfl, lt_c (g := 999) (by omega) (by omega)⟩
  · have hk2 : k < 3 := hk
    rcases (show k = 0 ∨ k = 1 ∨ k = 2 by omega) with z | z | z <;> subst z
    · exact ⟨nI P - 1, rfl, lt_P (by omega) (by omega)⟩
    · exact ⟨9, rfl, lt_c (g := 9) (by omega) (by omega)⟩
    · exact ⟨99, rfl, lt_c (g := 99) (by omega) (by omega)⟩
  · have hk2 : k < 2 := hk
    rcases (show k = 0 ∨ k = 1 by omega) with z | z <;> subst z
    · exact ⟨8, rfl, lt_c (g := 8) (by omega) (by omega)⟩
    · exact ⟨1, rfl, lt_c (g := 1) (by omega) (by omega)⟩
  · exact ⟨99, rfl, lt_c (g := 99) (by omega) (by omega)⟩
theorem nOf_4 (c : Nat) : nOf c ≤ 4 := by unfold nOf; split <;> (try split) <;> (try split) <;> (try split) <;> omega
theorem isW_256 {c : Nat} (h : isW c) : c < 256 := by rcases h with e | e | e | e <;> omega
theorem c_close {c k P b f v : Nat} {σ : g_St} (hc : isW c) (hk : k < nOf c) (hP : P ≤ 6) (hv : v < 1000) (hf : 0 < f) (hf2 : f < 1000) (h3 : σ.1 2 3 = nI c) (h4 : σ.1 2 4 = nI k) (h32 : σ.1 3 2 = nI P) (h5 : σ.1 2 5 = nI f) (h6 : σ.1 2 6 = nI v) (h7 : σ.1 2 7 = nI b) : m_X6_closeNumber σ = some (if f ≤ 3 ∧ rlo c k ≤ v ∧ v < rhi c P k then g_sI (g_sI (g_sI σ 2 5 0) 12 k (nI v)) 2 4 (nI (k + 1)) else g_sI (g_sI (g_sI σ 2 5 0) 2 10 2) 2 11 (nI b)) := by
  have hc8 := isW_256 hc
  have hn4 := nOf_4 c
  have e61 : m_X6_closeNumber_61 (g_sI σ 2 5 0) = some (g_sI (g_sI (g_sI σ 2 5 0) 2 10 2) 2 11 (nI b)) := by
    unfold m_X6_closeNumber_61 m_X6_fail g_lt
    rw [Option.bind_some, sI_n (by omega), h7]
  have e42 : m_X6_closeNumber_42 σ = some (g_sI (g_sI (g_sI σ 2 5 0) 2 10 2) 2 11 (nI b)) := by
    unfold m_X6_closeNumber_42 m_X6_closeNumber_43 g_lt
    dsimp only
    rw [if_pos rfl]
    exact e61
  unfold m_X6_closeNumber
  rw [h5, if_neg (nI_ne0 hf (by omega))]
  by_cases q1 : f ≤ 3
  · rw [if_neg (show ¬ (3 : Int32) < nI f from a_nlt (a := 3) f q1 (by omega)), c_least hc8 (by omega) h3 h4, Option.bind_some]
    dsimp only
    rw [h6]
    by_cases q2 : rlo c k ≤ v
    · rw [if_neg (a_nlt _ q2 (by omega))]
      obtain ⟨g, g1, g2⟩ := c_great hc hk hP hv h3 h4 h32
      rw [g1, Option.bind_some]
      dsimp only
      try rw [h6]
      by_cases q3 : v < rhi c P k
      · rw [if_neg (fun z => by have := g2.mp z; omega), if_pos ⟨q1, q2, q3⟩]
        unfold m_X6_closeNumber_43 g_lt
        dsimp only
        rw [if_neg n10, sI_n (by omega), h4, if_pos (show nI k < (4 : Int32) from a_lt 4 (by omega) (by omega)), if_pos (a_in (by omega) (by omega)), nI_clamp (by omega), sI_n (by omega), h6, sI_o (by omega), sI_n (by omega), h4, nI_1]
      · rw [if_pos (g2.mpr (by omega)), if_neg (fun z => q3 z.2.2), e42]
    · have : rlo c k ≤ 1 := by unfold rlo; split <;> omega
      rw [if_pos (a_lt _ (by omega) (by omega)), if_neg (fun z => q2 z.2.1), e42]
  · rw [if_pos (show (3 : Int32) < nI f from a_lt (a := 3) f (by omega) (by omega)), if_neg (fun z => q1 z.1), e42]
theorem rhi_le {c P k : Nat} (hP : P ≤ 6) : rhi c P k ≤ 1000 := by
  unfold rhi
  split <;> (try split) <;> (try split) <;> (try split) <;> omega
theorem tf_first {c k : Nat} {g y : Int32} {σ : g_St} (hc8 : c < 256) (hn4 : nOf c ≤ 4) (hk : k < nOf c) (h3 : σ.1 2 3 = nI c) (h4 : σ.1 2 4 = nI k) (h5 : σ.1 2 5 = 0) : m_X6_takeFigure g y σ = m_X6_takeFigure_38 g (g_sI (g_sI σ 2 7 y) 2 6 0) := by
  have hlt : nI k < nI (nOf c) := a_lt _ hk (by omega)
  unfold m_X6_takeFigure
  rw [if_pos h5, h3, numbersOf_c hc8, Option.bind_some, h4]
  dsimp only
  rw [if_pos hlt]
  have e : ∀ F : g_St → Option g_St, (g_lt (g_sI σ 2 7 y) fun σ4 => (g_lt (g_sI σ4 2 6 (0 : Int32)) fun σ5 => F σ5)) = F (g_sI (g_sI σ 2 7 y) 2 6 0) := fun F => rfl
  exact e (m_X6_takeFigure_38 g)
theorem run_all {N n b e c k : Nat} {x : Nat → Nat} {σ : g_St} (hn : n ≤ 250) (hx : ∀ i, i < n → σ.1 1 i = nI (x i)) (hc8 : c < 256) (hn4 : nOf c ≤ 4) (hk : k < nOf c) (h3 : σ.1 2 3 = nI c) (h4 : σ.1 2 4 = nI k) (h5 : σ.1 2 5 = 0) (h10 : σ.1 2 10 = 0) (hd : b < n ∧ isD (x b) = true) (d1 : b + 1 ≤ e) (d2 : e ≤ n) (hdig : ∀ j, b ≤ j → j < e → isD (x j) = true) : ∃ τ, DG σ τ b (e - b) (vC x b (e - b) b 0) ∧ ∀ P, RunP N n e τ P → RunP N n b σ P := by
  have hdb := hd.2
  unfold isD at hdb
  simp only [decide_eq_true_eq] at hdb
  -- the first figure
  have hD0 : DG σ (g_sI (g_sI σ 2 7 (nI b)) 2 6 0) b 0 0 := ⟨⟨by simp (disch := omega) only [sI_o, sI_k, sI_n, sA_o, sA_s, sI_2, sA_2, sL_1, sL_o]; exact h5, by simp (disch := omega) only [sI_o, sI_k, sI_n, sA_o, sA_s, sI_2, sA_2, sL_1, sL_o]; rfl, by simp (disch := omega) only [sI_o, sI_k, sI_n, sA_o, sA_s, sI_2, sA_2, sL_1, sL_o]⟩, fun j j1 j2 j3 => by rw [sI_n j2, sI_n j3], fun c hc => by rw [sI_o hc, sI_o hc], rfl⟩
  obtain ⟨y, y1, y2⟩ := tf_38 (c := x b - 48) hD0 (by omega) (by omega) (by omega)
  have hfirst : ∀ P, RunP N n (b + 1) y P → RunP N n b σ P := fun P hr => by
    refine run_step (x := x) (σ' := y) hn hd.1 (hx b hd.1) h10 ?_ hr
    rw [tl_d hd.2, tf_first hc8 hn4 hk h3 h4 h5, y1, Option.bind_some]
  have y2' : DG σ y b (b + 1 - b) (x b - 48) := by
    rw [show b + 1 - b = 0 + 1 by omega]
    rw [if_neg (show ¬ 2 < 0 by omega), Nat.zero_mul, Nat.zero_add (x b - 48)] at y2
    exact y2
  have hvb1 : x b - 48 < vbd (b + 1 - b) := by
    rw [show b + 1 - b = 1 by omega]
    show x b - 48 < 10
    omega
  have hvv : vC x b (e - b) b 0 = vC x b (e - (b + 1)) (b + 1) (x b - 48) := by
    rw [show e - b = e - (b + 1) + 1 by omega, vC_s, if_neg (show ¬ 2 < b - b by omega), Nat.zero_mul, Nat.zero_add]
  obtain ⟨τ, t1, _⟩ := run_digits (N := N) (P := fun _ => True) hn d2 hx h10 hdig (e - (b + 1)) (b + 1) (x b - 48) y (by omega) (by omega) hvb1 y2'
  refine ⟨τ, by rw [hvv]; exact t1, fun P hr => hfirst P ?_⟩
  -- the state is the same whatever is asked
  have hcan : ∀ m i v σ', i + m = e → b < i → v < vbd (i - b) → DG σ σ' b (i - b) v → ∀ τ, DG σ τ b (e - b) (vC x b m i v) → (τ.1 2 = fun j => if j = 5 then nI (e - b) else if j = 6 then nI (vC x b m i v) else if j = 7 then nI b else σ.1 2 j) := fun m i v σ' _ _ _ _ τ hτ => by
    funext j
    by_cases j1 : j = 5
    · rw [if_pos j1, j1]; exact hτ.1.1
    · rw [if_neg j1]
      by_cases j2 : j = 6
      · rw [if_pos j2, j2]; exact hτ.1.2.1
      · rw [if_neg j2]
        by_cases j3 : j = 7
        · rw [if_pos j3, j3]; exact hτ.1.2.2
        · rw [if_neg j3]; exact hτ.2.1 j j1 j2 j3
  obtain ⟨τ', t1', t2'⟩ := run_digits (N := N) (P := P) hn d2 hx h10 hdig (e - (b + 1)) (b + 1) (x b - 48) y (by omega) (by omega) hvb1 y2'
  have et : τ' = τ := by
    have q1 : τ'.1 = τ.1 := by
      funext c
      by_cases z : c = 2
      · rw [z, hcan _ _ _ y (by omega) (by omega) hvb1 y2' τ' t1', hcan _ _ _ y (by omega) (by omega) hvb1 y2' τ t1]
      · rw [t1'.2.2.1 c z, t1.2.2.1 c z]
    have q2 : τ'.2 = τ.2 := by rw [t1'.2.2.2, t1.2.2.2]
    exact Prod.ext q1 q2
  rw [et] at t2'
  exact t2' hr
/-- one number -/
theorem run_num {N n a c k : Nat} {x : Nat → Nat} {S : Sx} {f : Nat → Nat} {σ : g_St} (hn : n ≤ 250) (ha : a ≤ n) (hS : SOK S) (hx : ∀ i, i < n → σ.1 1 i = nI (x i)) (hx8 : ∀ i, i < n → x i < 256) (hc : isW c) (hk : k < nOf c) (hQ : QS S c k f σ) : (∀ v e, num1 x n (rlo c k) (rhi c (tP (sW S)) k) a = .inr (v, e) → ∃ τ, QS S c (k + 1) (va_up f k v) τ ∧ EF σ τ ∧ ∀ P, RunP N n e τ P → RunP N n a σ P) ∧ (∀ q p σ0, num1 x n (rlo c k) (rhi c (tP (sW S)) k) a = .inl (q, p) → EF σ0 σ → RunP N n a σ (RsF σ0 q p)) := by
  obtain ⟨hCS, ⟨h3, h4, h5⟩, ⟨h10, h11⟩, h12⟩ := hQ
  have hc8 := isW_256 hc
  have hn4 := nOf_4 c
  have hP6 : tP (sW S) ≤ 6 := hS.1.1
  obtain ⟨b, hb⟩ : ∃ b, b = skp x n a := ⟨_, rfl⟩
  obtain ⟨s1, s2, s3, s4⟩ := skp_p (x := x) (n := n) _ a (Nat.le_refl _) ha
  rw [← hb] at s1 s2 s3 s4
  have hr := rhi_le (c := c) (P := tP (sW S)) (k := k) hP6
  unfold num1
  rw [← hb]
  by_cases hd : b < n ∧ isD (x b) = true
  · -- a number stands there
    obtain ⟨e, he⟩ : ∃ e, e = dge x n b := ⟨_, rfl⟩
    obtain ⟨d1, d2, d3, d4⟩ := dge_p (x := x) (n := n) _ (b + 1) (Nat.le_refl _) (by omega)
    rw [← dge_y hd.1 hd.2, ← he] at d1 d2 d3 d4
    rw [if_pos hd, ← he]
    have hdig : ∀ j, b ≤ j → j < e → isD (x j) = true := fun j j1 j2 => by
      by_cases z : j = b
      · rw [z]; exact hd.2
      · exact d4 j (by omega) j2
    have hdb := hd.2
    unfold isD at hdb
    simp only [decide_eq_true_eq] at hdb
    obtain ⟨τ, hD, hrun0⟩ := run_all (N := N) (k := k) hn hx hc8 hn4 hk h3 h4 h5 h10 hd d1 d2 hdig
    have hrun : ∀ P, RunP N n e τ P → RunP N n a σ P := fun P hr => run_skip hn hx h10 h5 _ a (Nat.le_refl _) (by rw [← hb]; exact hrun0 P hr)
    have hvlt := vC_lt (x := x) (b := b) (e - b) b 0 (Nat.le_refl _) (fun j j1 j2 => hdig j j1 (by omega)) (by rw [Nat.sub_self]; show 0 < 1; omega)
    have hcl := c_close (σ := τ) (P := tP (sW S)) (b := b) (f := e - b) (v := vC x b (e - b) b 0) hc hk hP6 hvlt (by omega) (by omega) (by rw [hD.2.1 3 (by omega) (by omega) (by omega)]; exact h3) (by rw [hD.2.1 4 (by omega) (by omega) (by omega)]; exact h4) (by rw [hD.2.2.1 3 (by omega)]; exact hCS.1.1) hD.1.1 hD.1.2.1 hD.1.2.2
    -- the reference's value says the same
    have hcond : (rlo c k ≤ vR x b (e - b) b 0 ∧ vR x b (e - b) b 0 < rhi c (tP (sW S)) k) ↔ (e - b ≤ 3 ∧ rlo c k ≤ vC x b (e - b) b 0 ∧ vC x b (e - b) b 0 < rhi c (tP (sW S)) k) := by
      by_cases z : e - b ≤ 3
      · rw [v_same (e - b) b 0 (by omega)]
        exact ⟨fun w => ⟨z, w⟩, fun w => w.2⟩
      · rw [v_big (e - b) b 0 (by omega) (by omega)]
        exact ⟨fun w => by omega, fun w => absurd w.1 z⟩
    have hτx : ∀ i, i < n → τ.1 1 i = nI (x i) := fun i hi => by rw [hD.2.2.1 1 (by omega)]; exact hx i hi
    have hτ10 : τ.1 2 10 = 0 := by rw [hD.2.1 10 (by omega) (by omega) (by omega)]; exact h10
    have hEτ : EF σ τ := ⟨fun c hc => hD.2.2.1 c (by omega), hD.2.2.2⟩
    by_cases hq : rlo c k ≤ vR x b (e - b) b 0 ∧ vR x b (e - b) b 0 < rhi c (tP (sW S)) k
    · have hq' := hcond.mp hq
      rw [if_pos hq'] at hcl
      have hvr : vR x b (e - b) b 0 = vC x b (e - b) b 0 := v_same (e - b) b 0 (by omega)
      rw [if_pos hq]
      refine ⟨fun v e' hv => ?_, fun q p σ0 h => by cases h⟩
      cases hv
      refine ⟨g_sI (g_sI (g_sI τ 2 5 0) 12 k (nI (vC x b (e - b) b 0))) 2 4 (nI (k + 1)), ⟨?_, ⟨?_, by simp (disch := omega) only [sI_o, sI_k, sI_n, sA_o, sA_s, sI_2, sA_2, sL_1, sL_o], by simp (disch := omega) only [sI_o, sI_k, sI_n, sA_o, sA_s, sI_2, sA_2, sL_1, sL_o]⟩, ⟨?_, ?_⟩, fun i hi => ?_⟩, EF_I (EF_I (EF_I hEτ (by omega)) (by omega)) (by omega), fun P hr => hrun P (run_close hn d2 hτx hx8 d3 hτ10 hcl (by simp (disch := omega) only [sI_o, sI_k, sI_n, sA_o, sA_s, sI_2, sA_2, sL_1, sL_o]) (by simp (disch := omega) only [sI_o, sI_k, sI_n, sA_o, sA_s, sI_2, sA_2, sL_1, sL_o]) hr)⟩
      · exact CS_k hCS (fun c c1 c2 c3 => by rw [sI_o (by omega), sI_o (by omega), sI_o (by omega)]; exact hD.2.2.1 c (by omega)) (by simp (disch := omega) only [sI_o, sI_k, sI_n, sA_o, sA_s, sI_2, sA_2, sL_1, sL_o]; exact hD.2.1 8 (by omega) (by omega) (by omega)) (by simp (disch := omega) only [sI_o, sI_k, sI_n, sA_o, sA_s, sI_2, sA_2, sL_1, sL_o]; exact hD.2.1 9 (by omega) (by omega) (by omega))
      · simp (disch := omega) only [sI_o, sI_k, sI_n, sA_o, sA_s, sI_2, sA_2, sL_1, sL_o]; rw [hD.2.1 3 (by omega) (by omega) (by omega)]; exact h3
      · simp (disch := omega) only [sI_o, sI_k, sI_n, sA_o, sA_s, sI_2, sA_2, sL_1, sL_o]; exact hτ10
      · simp (disch := omega) only [sI_o, sI_k, sI_n, sA_o, sA_s, sI_2, sA_2, sL_1, sL_o]; rw [hD.2.1 11 (by omega) (by omega) (by omega)]; exact h11
      · rw [sI_o (by omega)]
        by_cases z : i = k
        · rw [z, sI_k, g_up_s, hvr]
        · rw [sI_n z, sI_o (by omega), hD.2.2.1 12 (by omega), g_up_n _ _ z]; exact h12 i (by omega)
    · rw [if_neg (fun z => hq (hcond.mpr z))] at hcl
      rw [if_neg hq]
      refine ⟨(fun v e' hv => by cases hv), fun q p σ0 h hE => ?_⟩
      cases h
      refine hrun _ (run_close hn d2 hτx hx8 d3 hτ10 hcl (by simp (disch := omega) only [sI_o, sI_k, sI_n, sA_o, sA_s, sI_2, sA_2, sL_1, sL_o]) (by simp (disch := omega) only [sI_o, sI_k, sI_n, sA_o, sA_s, sI_2, sA_2, sL_1, sL_o]) ?_)
      exact run_fault hn d2 (EF_I (EF_I (EF_I (EF_tr hE hEτ) (by omega)) (by omega)) (by omega)) (by omega) (by omega) (by simp (disch := omega) only [sI_o, sI_k, sI_n, sA_o, sA_s, sI_2, sA_2, sL_1, sL_o]; rfl) (by simp (disch := omega) only [sI_o, sI_k, sI_n, sA_o, sA_s, sI_2, sA_2, sL_1, sL_o])
  · rw [if_neg hd]
    refine ⟨(fun v e' hv => by cases hv), fun q p σ0 h hE => ?_⟩
    cases h
    refine run_skip hn hx h10 h5 _ a (Nat.le_refl _) ?_
    rw [← hb]
    by_cases hbn : b < n
    · have hnd : isD (x b) = false := by
        cases z : isD (x b) with
        | false => rfl
        | true => exact absurd ⟨hbn, z⟩ hd
      have hfail : m_X6_takeLetter (nI (x b)) (nI b) σ = some (g_sI (g_sI σ 2 10 1) 2 11 (nI b)) := by
        rw [tl_22 (hx8 b hbn) hnd]
        unfold m_X6_takeLetter_22
        rw [cl_0 h5, Option.bind_some, if_pos h10, if_neg (show ¬ nI (x b) = (32 : Int32) from a_ne 32 (s3 hbn) (by have := hx8 b hbn; omega) (by omega))]
        have hf : m_X6_fail 1 (nI b) σ = some (g_sI (g_sI σ 2 10 1) 2 11 (nI b)) := rfl
        have hc0 : ¬ σ.1 2 3 = 0 := by rw [h3]; exact nI_ne0 (by rcases hc with z | z | z | z <;> omega) (by omega)
        unfold m_X6_closeClause m_X6_closeClause_21 m_X6_openClause m_X6_openClause_14
        rw [if_neg hc0, if_neg hc0, h3, numbersOf_c hc8, Option.bind_some]
        dsimp only
        rw [h4, if_neg (a_nle _ hk (by omega)), hf]
        simp only [Option.bind_some, ite_self]
      refine run_step (x := x) hn hbn (hx b hbn) h10 hfail ?_
      exact run_fault hn (by omega) (EF_I (EF_I hE (by omega)) (by omega)) (by omega) (by omega) (by simp (disch := omega) only [sI_o, sI_k, sI_n, sA_o, sA_s, sI_2, sA_2, sL_1, sL_o]; rfl) (by simp (disch := omega) only [sI_o, sI_k, sI_n, sA_o, sA_s, sI_2, sA_2, sL_1, sL_o])
    · have hbn' : b = n := by omega
      rw [hbn']
      intro fu hf
      obtain ⟨fu, rfl⟩ : ∃ f, fu = f + 1 := ⟨fu - 1, by omega⟩
      have hc0 : ¬ σ.1 2 3 = 0 := by rw [h3]; exact nI_ne0 (by rcases hc with z | z | z | z <;> omega) (by omega)
      have e : m_X6_read_1_6 N (fu + 1) (nI n) (nI n) σ = m_X6_read_1_6 N (fu + 1) (nI n) (nI n) (g_sI (g_sI σ 2 10 1) 2 11 (nI n)) := by
        unfold m_X6_read_1_6
        rw [if_pos (a_le n (Nat.le_refl _) (by omega)), if_pos (a_le n (Nat.le_refl _) (by omega))]
        unfold m_X6_read_1_38
        rw [if_pos h10, cl_0 h5, Option.bind_some, if_neg (show ¬ (g_sI (g_sI σ 2 10 1) 2 11 (nI n)).1 2 10 = 0 by simp (disch := omega) only [sI_o, sI_k, sI_n, sA_o, sA_s, sI_2, sA_2, sL_1, sL_o]; decide)]
        unfold m_X6_read_1_49
        rw [if_pos h10, if_neg hc0, if_neg (show ¬ (g_sI (g_sI σ 2 10 1) 2 11 (nI n)).1 2 10 = 0 by simp (disch := omega) only [sI_o, sI_k, sI_n, sA_o, sA_s, sI_2, sA_2, sL_1, sL_o]; decide)]
        rfl
      rw [e]
      exact run_fault (N := N) hn (Nat.le_refl _) (EF_I (EF_I hE (by omega)) (by omega)) (by omega) (by omega) (by simp (disch := omega) only [sI_o, sI_k, sI_n, sA_o, sA_s, sI_2, sA_2, sL_1, sL_o]; rfl) (by simp (disch := omega) only [sI_o, sI_k, sI_n, sA_o, sA_s, sI_2, sA_2, sL_1, sL_o]) (fu + 1) (by omega)
