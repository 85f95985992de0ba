/-! belief, likeliest -/
theorem lc_le {a b : Int64} : (lg_cmp a b ≤ 0) = (a ≤ b) := by
  refine propext ?_
  rw [← Int32.not_lt, ← Int64.not_lt]
  have := @lc_gt a b
  rw [this]
theorem lc_eq {a b : Int64} : (lg_cmp a b = 0) = (a = b) := by
  unfold lg_cmp
  by_cases h : b < a
  · have : ¬ a = b := fun q => by subst q; exact Int64.lt_irrefl h
    simp [h, this]
  · by_cases h2 : a = b
    · subst h2; simp [h]
    · simp [h, h2]
def gsl (W b : Nat → Nat) (all : Nat) (o : Option Nat) : Nat → Nat → Nat → Nat
  | 0, _, acc => acc
  | m + 1, k, acc => gsl W b all o m (k + 1) (acc * (if o = some (b k) then 2 * W (b k) else W (b k)) / all)
theorem gsl_s (W b : Nat → Nat) (all : Nat) (o : Option Nat) (m k acc : Nat) : gsl W b all o (m + 1) k acc = gsl W b all o m (k + 1) (acc * (if o = some (b k) then 2 * W (b k) else W (b k)) / all) := rfl
def gAll (w : Tw) (o : Option Nat) : Nat := wsm (tW w) (2 ^ tK w - 1) (tK w) + (match o with | none => 0 | some t => tW w t)
abbrev snF (d : Dt) : Nat → Nat := fun i => (dSeen d).getD i 0
def gs (d : Dt) (o : Option Nat) : Nat := gsl (tW (dT d)) (snF d) (gAll (dT d) o) o (dSeen d).length 0 1000000000
theorem bt_all : ∀ K, K < 9 → ∀ t, t < K → bt (2 ^ K - 1) t = true := by decide +kernel
theorem gAll_ge {w : Tw} {o : Option Nat} {t : Nat} (hw : TwOK w) (ht : t < tK w) : (if o = some t then 2 * tW w t else tW w t) ≤ gAll w o := by
  have h := wsm_ge (w := tW w) (bt_all (tK w) (by have := hw.2.1; omega) t ht) (tK w) ht
  unfold gAll
  by_cases e : o = some t
  · subst e; rw [if_pos rfl]; show _ ≤ _ + tW w t; omega
  · rw [if_neg e]; omega
theorem gAll_le {w : Tw} {o : Option Nat} (hw : TwOK w) (ho : ∀ t, o = some t → t < tK w) : gAll w o ≤ 100 := by
  have h := wsm_le (w := tW w) (S := 2 ^ tK w - 1) (b := 9) (tK w) (fun t ht => (hw.2.2.2.2.2.2.1 t ht).2)
  have := hw.2.1
  unfold gAll
  cases o with
  | none => show _ + 0 ≤ _; omega
  | some t => have := (hw.2.2.2.2.2.2.1 t (ho t rfl)).2; show _ + tW w t ≤ _; omega
theorem gstep_le {acc f all : Nat} (h : f ≤ all) (h0 : 0 < all) : acc * f / all ≤ acc := by
  rw [Nat.div_le_iff_le_mul_add_pred h0]
  have : acc * f ≤ acc * all := Nat.mul_le_mul_left acc h
  have e : all * acc = acc * all := Nat.mul_comm _ _
  omega
theorem gsl_le {w : Tw} {b : Nat → Nat} {o : Option Nat} {L : Nat} (hw : TwOK w) (hb : ∀ i, i < L → b i < tK w) : ∀ m k acc, k + m ≤ L → gsl (tW w) b (gAll w o) o m k acc ≤ acc
  | 0, _, _, _ => Nat.le_refl _
  | m + 1, k, acc, h => by
    rw [gsl_s]
    have hk := hb k (by omega)
    have h1 := gAll_ge (o := o) hw hk
    have h2 := (hw.2.2.2.2.2.2.1 (b k) hk).1
    exact Nat.le_trans (gsl_le hw hb m (k + 1) _ (by omega)) (gstep_le h1 (by split at h1 <;> omega))
theorem seen_b {d : Dt} (ok : OK d) : ∀ i, i < (dSeen d).length → (dSeen d).getD i 0 < tK (dT d) := fun i hi => by
  refine ok.2.2.2.2.2.1.2 _ ?_
  rw [List.getD_eq_getElem?_getD, List.getElem?_eq_getElem hi]
  exact List.getElem_mem hi
theorem gs_le {d : Dt} (ok : OK d) (o : Option Nat) : gs d o ≤ 1000000000 := gsl_le ok.1 (seen_b ok) (dSeen d).length 0 1000000000 (by omega)
theorem plv_eq {a K : Nat} {o : Option Nat} (ha : a < K) (hK : K ≤ 8) (ho : ∀ t, o = some t → t < K) : (nI a = plv o) ↔ o = some a := by
  cases o with
  | none => exact ⟨fun h => by rw [show plv none = -1 from rfl, u_m1 (by omega)] at h; exact h.elim, fun h => by cases h⟩
  | some t =>
    have := ho t rfl
    rw [show plv (some t) = nI t from rfl]
    exact ⟨fun h => by rw [(nI_eq (by omega) (by omega)).mp h], fun h => by cases h; rfl⟩
theorem g_div {acc f all : Nat} (h1 : acc ≤ 1000000000) (hf : f ≤ 18) (ha : all ≤ 100) (h0 : 0 < all) : (lN acc * (nI f).toInt64) / (nI all).toInt64 = lN (acc * f / all) := by
  have : acc * f ≤ 1000000000 * 18 := Nat.mul_le_mul h1 hf
  rw [nI_l (by omega), nI_l (by omega), lN_mul, pk_lDiv (by omega) h0 (by omega)]
theorem g_ne {all : Nat} (ha : all ≤ 100) (h0 : 0 < all) : ¬ (nI all).toInt64 = 0 := by
  rw [nI_l (by omega)]
  show ¬ lN all = lN 0
  rw [pk_lEQ (by omega) (by omega)]
  omega
theorem c_gs_loop {w : Tw} {b : Nat → Nat} {o : Option Nat} {L N : Nat} {σ : g_St} (hw : TwOK w) (hL : L ≤ 8) (hb : ∀ i, i < L → b i < tK w) (ho : ∀ t, o = some t → t < tK w) (hT : CT w σ) (h67 : σ.1 67 1 = nI L) (h68 : ∀ i, i < L → σ.1 68 i = nI (b i)) : ∀ m k acc fu, k + m = L → m < fu → acc ≤ 1000000000 → m_X8_guessWeight_51 N fu (plv o) (nI (gAll w o)) (lN acc) (nI k) σ = some (lN (gsl (tW w) b (gAll w o) o m k acc), σ) := by
  have hK := hw.2.1
  have hal := gAll_le hw ho
  intro m
  induction m with
  | zero =>
    intro k acc fu hk hf hacc
    obtain ⟨fu, rfl⟩ : ∃ f, fu = f + 1 := ⟨fu - 1, by omega⟩
    unfold m_X8_guessWeight_51
    rw [h67, if_pos (a_le k (by omega) (by omega))]
    rfl
  | succ m ih =>
    intro k acc fu hk hf hacc
    obtain ⟨fu, rfl⟩ : ∃ f, fu = f + 1 := ⟨fu - 1, by omega⟩
    have hbk := hb k (by omega)
    have hge := gAll_ge (o := o) hw hbk
    have hwt := hw.2.2.2.2.2.2.1 (b k) hbk
    have i1 : g_in (nI k) 8 := a_in (by omega) (by omega)
    have i2 : g_in (nI (b k)) 8 := a_in (by omega) (by omega)
    have hpos : 0 < gAll w o := by split at hge <;> omega
    rw [gsl_s]
    unfold m_X8_guessWeight_51 m_X8_guessWeight_101 g_lt
    rw [h67, if_neg (a_nle (a := L) k (by omega) (by omega)), if_neg (nI_nle hpos (by omega)), if_pos i1, nI_clamp (show k < 2 ^ 31 by omega), h68 k (by omega), if_pos i2, nI_clamp (show b k < 2 ^ 31 by omega), hT.2.2.2.2.2 (b k) hbk]
    dsimp only
    rw [if_pos i1, if_neg (g_ne hal hpos), nI_1]
    by_cases e : o = some (b k)
    · rw [if_pos e] at hge ⊢
      have e2 : (2 : Int32) * nI (tW w (b k)) = nI (2 * tW w (b k)) := pk_mul 2 _
      rw [if_pos ((plv_eq hbk hK ho).mpr e), e2, g_div hacc (by omega) hal hpos]
      exact ih (k + 1) _ fu (by omega) (by omega) (Nat.le_trans (gstep_le hge hpos) hacc)
    · rw [if_neg e] at hge ⊢
      rw [if_neg (fun z => e ((plv_eq hbk hK ho).mp z)), if_neg (g_ne hal hpos), g_div hacc (by omega) hal hpos]
      exact ih (k + 1) _ fu (by omega) (by omega) (Nat.le_trans (gstep_le hge hpos) hacc)
theorem r_gs_loop {w : Tw} {b : Nat → Nat} {o : Option Nat} {L N : Nat} {σ : g_St} (hw : TwOK w) (hL : L ≤ 8) (hb : ∀ i, i < L → b i < tK w) (ho : ∀ t, o = some t → t < tK w) (hT : RT w (σ.1 79)) (h67 : σ.1 77 17 = nI L) (h68 : ∀ i, i < L → σ.1 89 i = nI (b i)) : ∀ m k acc fu, k + m = L → m < fu → acc ≤ 1000000000 → m_X11_guess_32 N fu (plv o) (lN acc) (nI (gAll w o)) (nI k) σ = some (lN (gsl (tW w) b (gAll w o) o m k acc), σ) := by
  have hK := hw.2.1
  have hal := gAll_le hw ho
  intro m
  induction m with
  | zero =>
    intro k acc fu hk hf hacc
    obtain ⟨fu, rfl⟩ : ∃ f, fu = f + 1 := ⟨fu - 1, by omega⟩
    unfold m_X11_guess_32
    rw [h67, if_pos (a_le k (by omega) (by omega))]
    rfl
  | succ m ih =>
    intro k acc fu hk hf hacc
    obtain ⟨fu, rfl⟩ : ∃ f, fu = f + 1 := ⟨fu - 1, by omega⟩
    have hbk := hb k (by omega)
    have hge := gAll_ge (o := o) hw hbk
    have hwt := hw.2.2.2.2.2.2.1 (b k) hbk
    have i1 : g_in (nI k) 8 := a_in (by omega) (by omega)
    have hpos : 0 < gAll w o := by split at hge <;> omega
    rw [gsl_s]
    unfold m_X11_guess_32 m_X11_guess_74 g_lt
    rw [h67, if_neg (a_nle (a := L) k (by omega) (by omega)), if_pos i1, nI_clamp (show k < 2 ^ 31 by omega), h68 k (by omega)]
    dsimp only
    rw [r_w1 (by omega) (hT.2.2.2.2.2 (b k) hbk), Option.bind_some, Option.bind_some]
    dsimp only
    rw [if_neg (g_ne hal hpos), nI_1]
    by_cases e : o = some (b k)
    · rw [if_pos e] at hge ⊢
      have e2 : (2 : Int32) * nI (tW w (b k)) = nI (2 * tW w (b k)) := pk_mul 2 _
      rw [if_pos ((plv_eq hbk hK ho).mpr e), e2, g_div hacc (by omega) hal hpos]
      exact ih (k + 1) _ fu (by omega) (by omega) (Nat.le_trans (gstep_le hge hpos) hacc)
    · rw [if_neg e] at hge ⊢
      rw [if_neg (fun z => e ((plv_eq hbk hK ho).mp z)), if_neg (g_ne hal hpos), g_div hacc (by omega) hal hpos]
      exact ih (k + 1) _ fu (by omega) (by omega) (Nat.le_trans (gstep_le hge hpos) hacc)
theorem all_lt {K : Nat} (h : K ≤ 8) : 2 ^ K - 1 < 256 := by
  have := pow8 h
  have : 0 < 2 ^ K := Nat.pow_pos (by omega)
  omega
theorem c_gs {d : Dt} {σ : g_St} {o : Option Nat} {N : Nat} (ok : OK d) (h : CC d σ) (ho : ∀ t, o = some t → t < tK (dT d)) (hN : 8 < N) : m_X8_guessWeight N (plv o) σ = some (lN (gs d o), σ) := by
  have hK := ok.1.2.1
  have hl := c_gs_loop (N := N) (o := o) ok.1 ok.2.2.2.2.2.1.1 (seen_b ok) ho h.1.1 h.2.2.2.1 h.2.2.2.2.1 (dSeen d).length 0 1000000000 N (by omega) (by have := ok.2.2.2.2.2.1.1; omega) (Nat.le_refl _)
  have hwt := c_wt (σ := σ) (N := N) h.1.1.2.1 hK h.1.1.2.2.2.2.2 (all_lt hK) hN
  unfold m_X8_guessWeight
  cases o with
  | none =>
    rw [show plv none = -1 from rfl, if_pos (show (-1 : Int32) < 0 by decide)]
    unfold m_X8_guessWeight_16 m_X8_guessWeight_17 m_X7_everyTicket
    rw [Option.bind_some]
    dsimp only
    rw [h.1.1.2.1, u_all (tK (dT d)) (by omega), hwt, Option.bind_some]
    dsimp only
    rw [if_pos rfl]
    unfold m_X8_guessWeight_40 g_lt
    have e0 : nI (wsm (tW (dT d)) (2 ^ tK (dT d) - 1) (tK (dT d))) + 0 = nI (gAll (dT d) none) := nI_add _ 0
    rw [e0]
    exact hl
  | some t =>
    have ht := ho t rfl
    rw [show plv (some t) = nI t from rfl, if_neg (nI_pos (by omega)), h.1.1.2.1, if_neg (a_nle (a := tK (dT d)) t ht (by omega))]
    unfold m_X8_guessWeight_17 m_X7_everyTicket
    rw [Option.bind_some]
    dsimp only
    rw [h.1.1.2.1, u_all (tK (dT d)) (by omega), hwt, Option.bind_some]
    dsimp only
    rw [if_neg n10, if_pos (a_in (show t < 8 by omega) (by omega)), nI_clamp (by omega), h.1.1.2.2.2.2.2 t ht]
    unfold m_X8_guessWeight_40 g_lt
    rw [nI_add]
    exact hl
theorem r_gs {d : Dt} {σ : g_St} {o : Option Nat} {N : Nat} (ok : OK d) (h : RR d σ) (ho : ∀ t, o = some t → t < tK (dT d)) (hN : 8 < N) : m_X11_guess N (plv o) σ = some (lN (gs d o), σ) := by
  have hK := ok.1.2.1
  have hl := r_gs_loop (N := N) (o := o) ok.1 ok.2.2.2.2.2.1.1 (seen_b ok) ho h.1.1 h.2.2.2.1 h.2.2.2.2.1 (dSeen d).length 0 1000000000 N (by omega) (by have := ok.2.2.2.2.2.1.1; omega) (Nat.le_refl _)
  have hwt := r_wt (σ := σ) (N := N) h.1.1.2.1 hK h.1.1.2.2.2.2.2 (all_lt hK) hN
  unfold m_X11_guess m_X11_all
  rw [Option.bind_some]
  dsimp only
  rw [h.1.1.2.1, u_all (tK (dT d)) (by omega), hwt, Option.bind_some]
  dsimp only
  unfold m_X11_guess_26 g_lt
  cases o with
  | none =>
    rw [show plv none = -1 from rfl, if_pos rfl]
    have e0 : nI (wsm (tW (dT d)) (2 ^ tK (dT d) - 1) (tK (dT d))) + 0 = nI (gAll (dT d) none) := nI_add _ 0
    rw [e0]
    exact hl
  | some t =>
    have ht := ho t rfl
    rw [show plv (some t) = nI t from rfl, if_neg (by rw [u_m1 (by omega)]; exact id), r_w1 (by omega) (h.1.1.2.2.2.2.2 t ht), Option.bind_some]
    dsimp only
    rw [nI_add]
    exact hl
def gsm (d : Dt) : Nat → Nat → Nat → Nat
  | 0, _, acc => acc
  | m + 1, t, acc => gsm d m (t + 1) (acc + gs d (some t))
theorem gsm_le {d : Dt} (ok : OK d) : ∀ m t acc, gsm d m t acc ≤ acc + m * 1000000000
  | 0, _, acc => by show acc ≤ _; omega
  | m + 1, t, acc => by
    have h := gsm_le ok m (t + 1) (acc + gs d (some t))
    have := gs_le ok (some t)
    show gsm d m (t + 1) (acc + gs d (some t)) ≤ _
    omega
def belR (d : Dt) (o : Option Nat) : Int32 := if gsm d (tK (dT d)) 0 (gs d none) = 0 then 0 else nI (gs d o * 1000000 / gsm d (tK (dT d)) 0 (gs d none))
def belF (g tot : Nat) : Int32 := if tot = 0 then 0 else nI (g * 1000000 / tot)
theorem mil {g tot : Nat} (hg : g ≤ 1000000000) (h0 : 0 < tot) (ht : tot ≤ 20000000000) : ((lN g * (1000000 : Int64)) / lN tot).toInt32 = nI (g * 1000000 / tot) := by
  show ((lN g * lN 1000000) / lN tot).toInt32 = _
  rw [lN_mul, pk_lDiv (by omega) h0 (by omega), lN_i]
theorem c_mil_loop {d : Dt} {σ : g_St} {o : Option Nat} {N : Nat} (ok : OK d) (h : CC d σ) (ho : ∀ t, o = some t → t < tK (dT d)) (hN : 8 < N) : ∀ m t acc fu, t + m = tK (dT d) → m < fu → acc ≤ (t + 1) * 1000000000 → m_X8_millionths_10 N fu (plv o) (lN acc) (nI t) σ = some (belF (gs d o) (gsm d m t acc), σ) := by
  have hK := ok.1.2.1
  intro m
  induction m with
  | zero =>
    intro t acc fu ht hf hacc
    obtain ⟨fu, rfl⟩ : ∃ f, fu = f + 1 := ⟨fu - 1, by omega⟩
    unfold m_X8_millionths_10 belF
    rw [h.1.1.2.1, if_pos (a_le t (by omega) (by omega)), show gsm d 0 t acc = acc from rfl]
    have hg := gs_le ok o
    by_cases e : acc = 0
    · subst e
      rw [if_pos rfl, if_neg (by decide)]
    · have q : 0 ≤ lg_cmp (lN acc) (1 : Int64) := by
        rw [lg_cmp_ge]
        show lN 1 ≤ lN acc
        rw [pk_lLE (by omega) (by omega)]
        omega
      have q2 : ¬ lN acc = 0 := by
        show ¬ lN acc = lN 0
        rw [pk_lEQ (by omega) (by omega)]
        exact e
      rw [if_neg e, if_pos q, c_gs ok h ho hN, Option.bind_some]
      dsimp only
      rw [if_neg q2, mil hg (by omega) (by omega)]
  | succ m ih =>
    intro t acc fu ht hf hacc
    obtain ⟨fu, rfl⟩ : ∃ f, fu = f + 1 := ⟨fu - 1, by omega⟩
    have hg := gs_le ok (some t)
    have hc := c_gs (o := some t) ok h (fun s hs => by cases hs; omega) hN
    unfold m_X8_millionths_10 g_lt
    rw [h.1.1.2.1, if_neg (a_nle (a := tK (dT d)) t (by omega) (by omega))]
    rw [show plv (some t) = nI t from rfl] at hc
    rw [hc, Option.bind_some]
    dsimp only
    rw [lN_add, nI_1]
    exact ih (t + 1) (acc + gs d (some t)) fu (by omega) (by omega) (by omega)
theorem r_bel_loop {d : Dt} {σ : g_St} {o : Option Nat} {N : Nat} (ok : OK d) (h : RR d σ) (ho : ∀ t, o = some t → t < tK (dT d)) (hN : 8 < N) : ∀ m t acc fu, t + m = tK (dT d) → m < fu → acc ≤ (t + 1) * 1000000000 → m_X11_belief_25 N fu (plv o) (lN acc) (nI t) σ = some (belF (gs d o) (gsm d m t acc), σ) := by
  have hK := ok.1.2.1
  intro m
  induction m with
  | zero =>
    intro t acc fu ht hf hacc
    obtain ⟨fu, rfl⟩ : ∃ f, fu = f + 1 := ⟨fu - 1, by omega⟩
    unfold m_X11_belief_25 belF
    rw [h.1.1.2.1, if_pos (a_le t (by omega) (by omega)), show gsm d 0 t acc = acc from rfl]
    simp only [lc_eq]
    have hg := gs_le ok o
    by_cases e : acc = 0
    · subst e
      rw [if_pos rfl, if_pos (by decide)]
    · have q2 : ¬ lN acc = 0 := by
        show ¬ lN acc = lN 0
        rw [pk_lEQ (by omega) (by omega)]
        exact e
      rw [if_neg e, if_neg q2, r_gs ok h ho hN, Option.bind_some]
      dsimp only
      rw [if_neg q2, mil hg (by omega) (by omega)]
  | succ m ih =>
    intro t acc fu ht hf hacc
    obtain ⟨fu, rfl⟩ : ∃ f, fu = f + 1 := ⟨fu - 1, by omega⟩
    have hg := gs_le ok (some t)
    have hc := r_gs (o := some t) ok h (fun s hs => by cases hs; omega) hN
    unfold m_X11_belief_25 g_lt
    rw [h.1.1.2.1, if_neg (a_nle (a := tK (dT d)) t (by omega) (by omega))]
    rw [show plv (some t) = nI t from rfl] at hc
    rw [hc, Option.bind_some]
    dsimp only
    rw [lN_add, nI_1]
    exact ih (t + 1) (acc + gs d (some t)) fu (by omega) (by omega) (by omega)
theorem sp_belief (N : Nat) (hN : 8 < N) (x : Int32) : Sp (m_X10_belief N x) (m_X11_belief N x) := by
  refine Sp_ro (fun d ok => ?_)
  have hK8 : tK (dT d) ≤ 8 := ok.1.2.1
  have hg := gs_le ok none
  rcases o_cases x (tK (dT d)) (by omega) with ⟨o, rfl, ho⟩ | ⟨h1, h2⟩
  · refine ⟨belF (gs d o) (gsm d (tK (dT d)) 0 (gs d none)), fun σ h => ?_, fun σ h => ?_⟩
    · have e16 : m_X10_belief_16 N (plv o) σ = some (belF (gs d o) (gsm d (tK (dT d)) 0 (gs d none)), σ) := by
        unfold m_X10_belief_16 m_X8_millionths
        have hc := c_gs (o := none) ok h (fun s hs => by cases hs) hN
        rw [show plv none = -1 from rfl] at hc
        rw [hc, Option.bind_some]
        dsimp only
        rw [show (0 : Int32) = nI 0 from rfl, c_mil_loop ok h ho hN (tK (dT d)) 0 _ N (by omega) (by omega) (by omega), Option.bind_some]
      unfold m_X10_belief
      cases o with
      | none => rw [if_pos (show plv none = (-1 : Int32) from rfl)]; exact e16
      | some t =>
        have ht := ho t rfl
        rw [show plv (some t) = nI t from rfl] at *
        rw [if_neg (by rw [u_m1 (by omega)]; exact id), c_isT (nI t) h.1.1.2.1 (by omega), Option.bind_some]
        dsimp only
        rw [if_pos (a_in ht (by omega)), if_neg n10]
        exact e16
    · have e16 : m_X11_belief_16 N (plv o) σ = some (belF (gs d o) (gsm d (tK (dT d)) 0 (gs d none)), σ) := by
        unfold m_X11_belief_16
        have hc := r_gs (o := none) ok h (fun s hs => by cases hs) hN
        rw [show plv none = -1 from rfl] at hc
        rw [hc, Option.bind_some]
        dsimp only
        rw [show (0 : Int32) = nI 0 from rfl, r_bel_loop ok h ho hN (tK (dT d)) 0 _ N (by omega) (by omega) (by omega)]
      unfold m_X11_belief
      cases o with
      | none => rw [if_pos (show plv none = (-1 : Int32) from rfl)]; exact e16
      | some t =>
        have ht := ho t rfl
        rw [show plv (some t) = nI t from rfl] at *
        rw [if_neg (by rw [u_m1 (by omega)]; exact id), r_isT (nI t) h.1.1.2.1 (by omega), Option.bind_some]
        dsimp only
        rw [if_pos (a_in ht (by omega)), if_neg n10]
        exact e16
  · refine ⟨-1000000001, fun σ h => ?_, fun σ h => ?_⟩
    · unfold m_X10_belief
      rw [if_neg h1]
      simp only [c_isT x h.1.1.2.1 (by omega), Option.bind_some, if_neg h2, if_true]
    · unfold m_X11_belief
      rw [if_neg h1]
      simp only [r_isT x h.1.1.2.1 (by omega), Option.bind_some, if_neg h2, if_true]
/-! the likeliest -/
def lcF (g : Nat → Nat) : Nat → Nat → Option Nat → Option Nat
  | 0, _, b => b
  | m + 1, t, b => lcF g m (t + 1) (match b with | none => some t | some s => if g s < g t then some t else some s)
def lrF (g : Nat → Nat) (gn : Nat) : Nat → Option Nat → Option Nat
  | 0, b => b
  | j + 1, b => lrF g gn j (if (match b with | none => gn | some s => g s) ≤ g j then some j else b)
def LkC (g : Nat → Nat) (t : Nat) (b : Option Nat) : Prop := (b = none ∧ t = 0) ∨ ∃ s, b = some s ∧ s < t ∧ (∀ u, u < t → g u ≤ g s) ∧ (∀ u, u < s → g u < g s)
def LkR (g : Nat → Nat) (gn K j : Nat) (b : Option Nat) : Prop := (b = none ∧ ∀ u, j ≤ u → u < K → g u < gn) ∨ ∃ s, b = some s ∧ j ≤ s ∧ s < K ∧ gn ≤ g s ∧ (∀ u, j ≤ u → u < K → g u ≤ g s) ∧ (∀ u, j ≤ u → u < s → g u < g s)
theorem lcF_ok (g : Nat → Nat) : ∀ m t b, LkC g t b → LkC g (t + m) (lcF g m t b)
  | 0, t, b, h => h
  | m + 1, t, b, h => by
    rw [show t + (m + 1) = t + 1 + m by omega]
    refine lcF_ok g m (t + 1) _ ?_
    rcases h with ⟨rfl, h0⟩ | ⟨s, rfl, h1, h2, h3⟩
    · exact Or.inr ⟨t, rfl, by omega, fun u hu => by rw [show u = t by omega]; exact Nat.le_refl _, fun u hu => by omega⟩
    · show LkC g (t + 1) (if g s < g t then some t else some s)
      by_cases q : g s < g t
      · rw [if_pos q]
        refine Or.inr ⟨t, rfl, by omega, fun u hu => ?_, fun u hu => ?_⟩
        · by_cases e : u = t
          · subst e; omega
          · have := h2 u (by omega); omega
        · have := h2 u hu; omega
      · rw [if_neg q]
        refine Or.inr ⟨s, rfl, by omega, fun u hu => ?_, h3⟩
        by_cases e : u = t
        · subst e; omega
        · exact h2 u (by omega)
theorem lrF_ok (g : Nat → Nat) (gn K : Nat) : ∀ j b, j ≤ K → LkR g gn K j b → LkR g gn K 0 (lrF g gn j b)
  | 0, b, _, h => h
  | j + 1, b, hj, h => by
    refine lrF_ok g gn K j _ (by omega) ?_
    rcases h with ⟨rfl, h0⟩ | ⟨s, rfl, h1, h2, h3, h4, h5⟩
    · show LkR g gn K j (if gn ≤ g j then some j else none)
      by_cases q : gn ≤ g j
      · rw [if_pos q]
        refine Or.inr ⟨j, rfl, by omega, by omega, q, fun u h1 h2 => ?_, fun u h1 h2 => by omega⟩
        by_cases e : u = j
        · subst e; omega
        · have := h0 u (by omega) h2; omega
      · rw [if_neg q]
        refine Or.inl ⟨rfl, fun u h1 h2 => ?_⟩
        by_cases e : u = j
        · subst e; omega
        · exact h0 u (by omega) h2
    · show LkR g gn K j (if g s ≤ g j then some j else some s)
      by_cases q : g s ≤ g j
      · rw [if_pos q]
        refine Or.inr ⟨j, rfl, by omega, by omega, by omega, fun u k1 k2 => ?_, fun u k1 k2 => by omega⟩
        by_cases e : u = j
        · subst e; omega
        · have := h4 u (by omega) k2; omega
      · rw [if_neg q]
        refine Or.inr ⟨s, rfl, by omega, h2, h3, fun u k1 k2 => ?_, fun u k1 k2 => ?_⟩
        · by_cases e : u = j
          · subst e; omega
          · exact h4 u (by omega) k2
        · by_cases e : u = j
          · subst e; omega
          · exact h5 u (by omega) k2
def lkEnd (g : Nat → Nat) (gn : Nat) : Option Nat → Option Nat
  | none => none
  | some s => if g s < gn then none else some s
theorem lk_same (g : Nat → Nat) (gn K : Nat) : lkEnd g gn (lcF g K 0 none) = lrF g gn K none := by
  have h1 := lcF_ok g K 0 none (Or.inl ⟨rfl, rfl⟩)
  have h2 := lrF_ok g gn K K none (Nat.le_refl _) (Or.inl ⟨rfl, fun u k1 k2 => by omega⟩)
  rw [Nat.zero_add] at h1
  generalize lcF g K 0 none = a at *
  generalize lrF g gn K none = b at *
  rcases h1 with ⟨rfl, h0⟩ | ⟨s, rfl, s1, s2, s3⟩
  · rcases h2 with ⟨rfl, _⟩ | ⟨r, rfl, r1, r2, _⟩
    · rfl
    · omega
  · show (if g s < gn then none else some s) = b
    rcases h2 with ⟨rfl, k0⟩ | ⟨r, rfl, r1, r2, r3, r4, r5⟩
    · rw [if_pos (k0 s (by omega) s1)]
    · have a1 := s2 r r2
      have a2 := r4 s (by omega) s1
      rw [if_neg (by omega)]
      have : s = r := by
        rcases Nat.lt_trichotomy s r with q | q | q
        · have := r5 s (by omega) q; omega
        · exact q
        · have := s3 r q; omega
      rw [this]
def bwt (d : Dt) : Option Nat → Int64
  | none => -1
  | some s => lN (gs d (some s))
theorem c_hv_loop {d : Dt} {σ : g_St} {N : Nat} (ok : OK d) (h : CC d σ) (hN : 8 < N) : ∀ m t b fu, t + m = tK (dT d) → m < fu → (∀ s, b = some s → s < tK (dT d)) → m_X8_heaviest_9 N fu (plv b) (bwt d b) (nI t) σ = some (plv (lkEnd (fun t => gs d (some t)) (gs d none) (lcF (fun t => gs d (some t)) m t b)), σ) := by
  have hK := ok.1.2.1
  intro m
  induction m with
  | zero =>
    intro t b fu ht hf hb
    obtain ⟨fu, rfl⟩ : ∃ f, fu = f + 1 := ⟨fu - 1, by omega⟩
    have hg := gs_le ok none
    have hc := c_gs (o := none) ok h (fun s hs => by cases hs) hN
    rw [show plv none = -1 from rfl] at hc
    unfold m_X8_heaviest_9
    rw [h.1.1.2.1, if_pos (a_le t (by omega) (by omega)), hc, Option.bind_some]
    dsimp only
    simp only [lc_le]
    rw [show lcF (fun t => gs d (some t)) 0 t b = b from rfl]
    cases b with
    | none =>
      have q : ¬ lN (gs d none) ≤ bwt d none := by
        show ¬ lN (gs d none) ≤ (-1 : Int64)
        rw [Int64.le_iff_toInt_le, pk_lT (by omega)]
        have : (-1 : Int64).toInt = -1 := by decide
        omega
      rw [if_neg q]; rfl
    | some s =>
      have hg2 := gs_le ok (some s)
      show (if lN (gs d none) ≤ lN (gs d (some s)) then _ else _) = some (plv (if gs d (some s) < gs d none then none else some s), σ)
      by_cases q : gs d (some s) < gs d none
      · rw [if_pos q, if_neg (by rw [pk_lLE (by omega) (by omega)]; omega)]; rfl
      · rw [if_neg q, if_pos (by rw [pk_lLE (by omega) (by omega)]; omega)]
  | succ m ih =>
    intro t b fu ht hf hb
    obtain ⟨fu, rfl⟩ : ∃ f, fu = f + 1 := ⟨fu - 1, by omega⟩
    have hg := gs_le ok (some t)
    have hc := c_gs (o := some t) ok h (fun s hs => by cases hs; omega) hN
    rw [show plv (some t) = nI t from rfl] at hc
    have it := ih (t + 1) (some t) fu (by omega) (by omega) (fun s hs => by cases hs; omega)
    unfold m_X8_heaviest_9 m_X8_heaviest_40 g_lt
    rw [h.1.1.2.1, if_neg (a_nle (a := tK (dT d)) t (by omega) (by omega)), hc, Option.bind_some]
    dsimp only
    simp only [lc_le]
    rw [nI_1]
    cases b with
    | none =>
      have q : ¬ lN (gs d (some t)) ≤ bwt d none := by
        show ¬ lN (gs d (some t)) ≤ (-1 : Int64)
        rw [Int64.le_iff_toInt_le, pk_lT (by omega)]
        have : (-1 : Int64).toInt = -1 := by decide
        omega
      rw [if_neg q]
      exact it
    | some s =>
      have hg2 := gs_le ok (some s)
      have is := ih (t + 1) (some s) fu (by omega) (by omega) hb
      have e : lcF (fun t => gs d (some t)) (m + 1) t (some s) = lcF (fun t => gs d (some t)) m (t + 1) (if gs d (some s) < gs d (some t) then some t else some s) := rfl
      rw [e]
      show (if lN (gs d (some t)) ≤ lN (gs d (some s)) then _ else _) = _
      by_cases q : gs d (some s) < gs d (some t)
      · rw [if_pos q, if_neg (by rw [pk_lLE (by omega) (by omega)]; omega)]; exact it
      · rw [if_neg q, if_pos (by rw [pk_lLE (by omega) (by omega)]; omega)]; exact is
def rmost (d : Dt) (b : Option Nat) : Nat := match b with | none => gs d none | some s => gs d (some s)
theorem r_hv_loop {d : Dt} {σ : g_St} {N : Nat} (ok : OK d) (h : RR d σ) (hN : 8 < N) : ∀ j b fu, j ≤ tK (dT d) → j < fu → m_X11_likeliest_18 N fu (plv b) (lN (rmost d b)) (nI j - 1) σ = some (plv (lrF (fun t => gs d (some t)) (gs d none) j b), σ) := by
  have hK := ok.1.2.1
  intro j
  induction j with
  | zero =>
    intro b fu hj hf
    obtain ⟨fu, rfl⟩ : ∃ f, fu = f + 1 := ⟨fu - 1, by omega⟩
    unfold m_X11_likeliest_18
    rw [if_pos (show nI 0 - 1 < (0 : Int32) by decide)]
    rfl
  | succ j ih =>
    intro b fu hj hf
    obtain ⟨fu, rfl⟩ : ∃ f, fu = f + 1 := ⟨fu - 1, by omega⟩
    have hg := gs_le ok (some j)
    have hgb : rmost d b ≤ 1000000000 := by cases b <;> exact gs_le ok _
    have hc := r_gs (o := some j) ok h (fun s hs => by cases hs; omega) hN
    rw [show plv (some j) = nI j from rfl] at hc
    have em : nI j + (-1 : Int32) = nI j - 1 := by
      cases j with
      | zero => decide
      | succ j => rw [pk_m1, nI_pred]
    unfold m_X11_likeliest_18
    rw [nI_pred, if_neg (nI_pos (by omega)), hc, Option.bind_some]
    unfold m_X11_likeliest_44 m_X11_likeliest_58 g_lt
    dsimp only
    simp only [lc_lt]
    rw [em]
    have e : lrF (fun t => gs d (some t)) (gs d none) (j + 1) b = lrF (fun t => gs d (some t)) (gs d none) j (if rmost d b ≤ gs d (some j) then some j else b) := rfl
    rw [e]
    by_cases q : rmost d b ≤ gs d (some j)
    · rw [if_pos q, if_neg (by rw [pk_lLT (by omega) (by omega)]; omega), if_neg (by rw [pk_lLT (by omega) (by omega)]; omega)]
      exact ih (some j) fu (by omega) (by omega)
    · rw [if_neg q, if_pos (by rw [pk_lLT (by omega) (by omega)]; omega), if_pos (by rw [pk_lLT (by omega) (by omega)]; omega)]
      exact ih b fu (by omega) (by omega)
theorem sp_likeliest (N : Nat) (hN : 8 < N) : Sp (m_X10_likeliest N) (m_X11_likeliest N) := by
  refine Sp_ro (fun d ok => ?_)
  have hK8 : tK (dT d) ≤ 8 := ok.1.2.1
  refine ⟨plv (lrF (fun t => gs d (some t)) (gs d none) (tK (dT d)) none), fun σ h => ?_, fun σ h => ?_⟩
  · have hl := c_hv_loop ok h hN (tK (dT d)) 0 none N (by omega) (by omega) (fun s hs => by cases hs)
    rw [lk_same] at hl
    unfold m_X10_likeliest m_X8_heaviest
    rw [show (-1 : Int32) = plv none from rfl, show (-1 : Int64) = bwt d none from rfl, show (0 : Int32) = nI 0 from rfl, hl, Option.bind_some]
  · have hc := r_gs (o := none) ok h (fun s hs => by cases hs) hN
    rw [show plv none = -1 from rfl] at hc
    unfold m_X11_likeliest g_lt
    rw [hc, Option.bind_some]
    dsimp only
    rw [h.1.1.2.1]
    exact r_hv_loop ok h hN (tK (dT d)) none N (Nat.le_refl _) (by omega)
