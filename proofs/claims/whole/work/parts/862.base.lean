/-! frames: what one side holds stays when the other side works -/
theorem CC_keep {d : Dt} {σ τ : g_St} (h : CC d σ) (k : keepC σ τ) : CC d τ := by
  have e : ∀ c, c < 77 → τ.1 c = σ.1 c := fun c hc => (k c hc).1
  obtain ⟨h1, h2, ⟨kb, k1, k2, k3⟩, h4⟩ := h
  refine ⟨?_, ?_, ⟨kb, ⟨k1.1, by rw [e 6 (by omega)]; exact k1.2.1, by rw [e 6 (by omega)]; exact k1.2.2⟩, ?_, fun i hi => ⟨(k3 i hi).1, fun s v hs => ?_⟩⟩, ?_⟩
  · unfold CCa CT CN at *
    simp (disch := omega) only [e]
    exact h1
  · unfold CCu at *
    simp (disch := omega) only [e]
    exact h2
  · rw [e 54 (by omega)]; exact k2
  · obtain ⟨a1, a2, a3⟩ := (k3 i hi).2 s v hs
    rw [e 58 (by omega), e (56 + i) (by omega)]
    exact ⟨a1, a2, a3⟩
  · unfold CCs at *
    simp (disch := omega) only [e]
    exact h4
theorem RR_keep {d : Dt} {σ τ : g_St} (h : RR d σ) (k : keepR σ τ) : RR d τ := by
  have e : ∀ c, 77 ≤ c → τ.1 c = σ.1 c := fun c hc => (k c hc).1
  unfold RR RRa RRu RRk RRs at *
  simp (disch := omega) only [e]
  exact h
theorem keepC_rf (σ : g_St) : keepC σ σ := fun _ _ => ⟨rfl, rfl⟩
theorem keepR_rf (σ : g_St) : keepR σ σ := fun _ _ => ⟨rfl, rfl⟩
theorem keepC_tr {σ τ υ : g_St} (h1 : keepC σ τ) (h2 : keepC τ υ) : keepC σ υ := fun c hc => ⟨(h2 c hc).1.trans (h1 c hc).1, (h2 c hc).2.trans (h1 c hc).2⟩
theorem keepR_tr {σ τ υ : g_St} (h1 : keepR σ τ) (h2 : keepR τ υ) : keepR σ υ := fun c hc => ⟨(h2 c hc).1.trans (h1 c hc).1, (h2 c hc).2.trans (h1 c hc).2⟩
theorem keepC_I {σ : g_St} {c k : Nat} {v : Int32} (h : 77 ≤ c) : keepC σ (g_sI σ c k v) := fun j hj => ⟨g_up_n _ _ (by omega), rfl⟩
theorem keepR_I {σ : g_St} {c k : Nat} {v : Int32} (h : c < 77) : keepR σ (g_sI σ c k v) := fun j hj => ⟨g_up_n _ _ (by omega), rfl⟩
theorem keepC_A {σ : g_St} {c : Nat} {f : Nat → Int32} (h : 77 ≤ c) : keepC σ (g_sA σ c f) := fun j hj => ⟨g_up_n _ _ (by omega), rfl⟩
theorem keepR_A {σ : g_St} {c : Nat} {f : Nat → Int32} (h : c < 77) : keepR σ (g_sA σ c f) := fun j hj => ⟨g_up_n _ _ (by omega), rfl⟩
theorem keepR_L {σ : g_St} {c k : Nat} {v : Int64} (h : c < 77) : keepR σ (g_sL σ c k v) := fun j hj => ⟨rfl, g_up_n _ _ (by omega)⟩
/-! reading behind a write -/
theorem sI_o {σ : g_St} {c k j : Nat} {v : Int32} (h : j ≠ c) : (g_sI σ c k v).1 j = σ.1 j := g_up_n _ _ h
theorem sI_k {σ : g_St} {c k : Nat} {v : Int32} : (g_sI σ c k v).1 c k = v := by simp [g_sI, va_up, upd]
theorem sI_n {σ : g_St} {c k j : Nat} {v : Int32} (h : j ≠ k) : (g_sI σ c k v).1 c j = σ.1 c j := by simp [g_sI, va_up, upd, h]
theorem sI_2 {σ : g_St} {c k : Nat} {v : Int32} : (g_sI σ c k v).2 = σ.2 := rfl
theorem sA_o {σ : g_St} {c j : Nat} {f : Nat → Int32} (h : j ≠ c) : (g_sA σ c f).1 j = σ.1 j := g_up_n _ _ h
theorem sA_s {σ : g_St} {c : Nat} {f : Nat → Int32} : (g_sA σ c f).1 c = f := g_up_s _ _ _
theorem sA_2 {σ : g_St} {c : Nat} {f : Nat → Int32} : (g_sA σ c f).2 = σ.2 := rfl
theorem sL_1 {σ : g_St} {c k : Nat} {v : Int64} : (g_sL σ c k v).1 = σ.1 := rfl
theorem sL_o {σ : g_St} {c k j : Nat} {v : Int64} (h : j ≠ c) : (g_sL σ c k v).2 j = σ.2 j := g_up_n _ _ h
/-! what a relation reads -/
theorem CT_k {w : Tw} {σ τ : g_St} (h : CT w σ) (k : ∀ c, 13 ≤ c → c < 16 → τ.1 c = σ.1 c) : CT w τ := by
  unfold CT at *
  rw [k 13 (by omega) (by omega), k 14 (by omega) (by omega), k 15 (by omega) (by omega)]
  exact h
theorem CN_k {w : Tw} {v : Nw} {σ τ : g_St} (h : CN w v σ) (k : ∀ c, 16 ≤ c → c < 22 → τ.1 c = σ.1 c) : CN w v τ := by
  unfold CN at *
  rw [k 16 (by omega) (by omega), k 17 (by omega) (by omega), k 18 (by omega) (by omega), k 19 (by omega) (by omega), k 20 (by omega) (by omega), k 21 (by omega) (by omega)]
  exact h
theorem CCu_k {d d' : Dt} {σ τ : g_St} (h : CCu d σ) (hT : dT d' = dT d) (hU : dU d' = dU d) (k : ∀ c, 22 ≤ c → c < 54 → τ.1 c = σ.1 c) : CCu d' τ := by
  unfold CCu at *
  rw [hT, hU, k 22 (by omega) (by omega)]
  obtain ⟨h1, nx, h2, h3, h4⟩ := h
  refine ⟨h1, nx, h2, h3, fun i v hv => ?_⟩
  rw [k _ (by omega) (by omega)]
  exact h4 i v hv
theorem CCk_k {d d' : Dt} {σ τ : g_St} (h : CCk d σ) (hT : dT d' = dT d) (hK : dK d' = dK d) (k : ∀ c, (c = 6 ∨ 54 ≤ c) → c < 59 → τ.1 c = σ.1 c) : CCk d' τ := by
  unfold CCk at *
  rw [hT, hK, k 6 (by omega) (by omega), k 54 (by omega) (by omega), k 58 (by omega) (by omega)]
  obtain ⟨kb, h1, h2, h3⟩ := h
  refine ⟨kb, h1, h2, fun i hi => ⟨(h3 i hi).1, fun s v hs => ?_⟩⟩
  rw [k _ (by omega) (by omega)]
  exact (h3 i hi).2 s v hs
theorem RRu_k {d d' : Dt} {σ τ : g_St} (h : RRu d σ) (hT : dT d' = dT d) (hU : dU d' = dU d) (k1 : τ.1 77 9 = σ.1 77 9) (k2 : τ.1 82 = σ.1 82) : RRu d' τ := by
  unfold RRu at *
  rw [hT, hU, k1, k2]
  exact h
theorem RRk_k {d d' : Dt} {σ τ : g_St} (h : RRk d σ) (hT : dT d' = dT d) (hK : dK d' = dK d) (k2 : τ.1 92 = σ.1 92) : RRk d' τ := by
  unfold RRk at *
  rw [hT, hK, k2]
  exact h
/-- both sides of a call answer alike, and hold alike what is behind it -/
def Sp (mc mr : g_St → Option (Int32 × g_St)) : Prop :=
  ∀ d, OK d → ∃ (r : Int32) (d' : Dt), OK d' ∧ (∀ σ, CC d σ → ∃ τ, mc σ = some (r, τ) ∧ CC d' τ ∧ keepR σ τ) ∧ (∀ σ, RR d σ → ∃ τ, mr σ = some (r, τ) ∧ RR d' τ ∧ keepC σ τ)
def Rel (d : Dt) (σ : g_St) : Prop := OK d ∧ CC d σ ∧ RR d σ
theorem Sp_use {mc mr : g_St → Option (Int32 × g_St)} (h : Sp mc mr) {d : Dt} {σ : g_St} (r : Rel d σ) : ∃ r d' τ1 τ2, mc σ = some (r, τ1) ∧ mr τ1 = some (r, τ2) ∧ Rel d' τ2 := by
  obtain ⟨r1, r2, r3⟩ := r
  obtain ⟨r, d', h1, h2, h3⟩ := h d r1
  obtain ⟨τ1, a1, a2, a3⟩ := h2 σ r2
  obtain ⟨τ2, b1, b2, b3⟩ := h3 τ1 (RR_keep r3 a3)
  exact ⟨r, d', τ1, τ2, a1, b1, h1, CC_keep a2 b3, b2⟩
/-- a call that only reads -/
theorem Sp_ro {mc mr : g_St → Option (Int32 × g_St)} (h : ∀ d, OK d → ∃ r : Int32, (∀ σ, CC d σ → mc σ = some (r, σ)) ∧ (∀ σ, RR d σ → mr σ = some (r, σ))) : Sp mc mr := fun d ok => by
  obtain ⟨r, h1, h2⟩ := h d ok
  exact ⟨r, d, ok, fun σ hc => ⟨σ, h1 σ hc, hc, keepR_rf σ⟩, fun σ hr => ⟨σ, h2 σ hr, hr, keepC_rf σ⟩⟩
