/-! lots -/
theorem nxs_ex : ∃ f : Nat → Nat, ∀ s, f s = (s * 1103515245 + 12345) % 2 ^ 31 := ⟨fun s => (s * 1103515245 + 12345) % 2 ^ 31, fun _ => rfl⟩
/-- the next seed; chosen, so that nothing ever computes it -/
noncomputable def nxs : Nat → Nat := Classical.choose nxs_ex
theorem nxs_eq (s : Nat) : nxs s = (s * 1103515245 + 12345) % 2 ^ 31 := Classical.choose_spec nxs_ex s
theorem nxs_lt (s : Nat) : nxs s < 2 ^ 31 := by rw [nxs_eq]; exact Nat.mod_lt _ (by omega)
theorem lmask (n : Nat) (h : n < 2 ^ 63) : lN n &&& (2147483647 : Int64) = lN (n % 2 ^ 31) := by
  apply Int64.toBitVec_inj.mp
  have e1 : (lN n).toBitVec = BitVec.ofNat 64 n := rfl
  have e2 : (lN (n % 2 ^ 31)).toBitVec = BitVec.ofNat 64 (n % 2 ^ 31) := rfl
  have e3 : ((2147483647 : Int64)).toBitVec = BitVec.ofNat 64 2147483647 := rfl
  rw [Int64.toBitVec_and, e1, e2, e3]
  apply BitVec.eq_of_toNat_eq
  rw [BitVec.toNat_and, BitVec.toNat_ofNat, BitVec.toNat_ofNat, BitVec.toNat_ofNat]
  rw [Nat.mod_eq_of_lt (show n < 2 ^ 64 by omega), Nat.mod_eq_of_lt (show 2147483647 < 2 ^ 64 by omega), Nat.mod_eq_of_lt (show n % 2 ^ 31 < 2 ^ 64 by omega)]
  exact Nat.and_two_pow_sub_one_eq_mod n 31
theorem c_next {σ : g_St} {s : Nat} (h : s < 2 ^ 31) : m_X10_nextSeed (nI s) σ = some (nI (nxs s), σ) := by
  unfold m_X10_nextSeed
  rw [nxs_eq]
  have e : (nI s).toInt64 * (1103515245 : Int64) + (12345 : Int64) = lN (s * 1103515245 + 12345) := by
    rw [nI_l h]
    show lN s * lN 1103515245 + lN 12345 = _
    rw [lN_mul, lN_add]
  rw [e, lmask _ (by omega), lN_i]
theorem r_next {s : Nat} (h : s < 2 ^ 31) : ((((nI s).toInt64 * (1103515245 : Int64)) + (12345 : Int64)) - (((nI s).toInt64 * (1103515245 : Int64)) + (12345 : Int64)) / (2147483648 : Int64) * (2147483648 : Int64)).toInt32 = nI (nxs s) := by
  have e : (nI s).toInt64 * (1103515245 : Int64) + (12345 : Int64) = lN (s * 1103515245 + 12345) := by
    rw [nI_l h]
    show lN s * lN 1103515245 + lN 12345 = _
    rw [lN_mul, lN_add]
  have e2 : (2147483648 : Int64) = lN 2147483648 := rfl
  rw [e, e2, pk_lRem (by omega) (by omega) (by omega), lN_i, nxs_eq]
def rsm (w : Nat → Nat) (S : Nat) : Nat → Nat → Nat
  | 0, _ => 0
  | d + 1, t => (if bt S t then w t else 0) + rsm w S d (t + 1)
theorem rsm_wsm (w : Nat → Nat) (S : Nat) : ∀ d t, wsm w S t + rsm w S d t = wsm w S (t + d)
  | 0, t => rfl
  | d + 1, t => by
    have h := rsm_wsm w S d (t + 1)
    rw [wsm_s] at h
    rw [show t + (d + 1) = t + 1 + d by omega, ← h]
    show _ + ((if bt S t then w t else 0) + rsm w S d (t + 1)) = _
    omega
def pick (w : Nat → Nat) (S : Nat) : Nat → Nat → Nat → Nat
  | 0, _, t => t
  | d + 1, l, t => if bt S t then (if l < w t then t else pick w S d (l - w t) (t + 1)) else pick w S d l (t + 1)
theorem pick_ok (w : Nat → Nat) (S : Nat) : ∀ d l t, l < rsm w S d t → t ≤ pick w S d l t ∧ pick w S d l t < t + d ∧ bt S (pick w S d l t) = true
  | 0, l, t, h => absurd h (by show ¬ l < 0; omega)
  | d + 1, l, t, h => by
    have h' : l < (if bt S t then w t else 0) + rsm w S d (t + 1) := h
    show t ≤ (if bt S t then (if l < w t then t else pick w S d (l - w t) (t + 1)) else pick w S d l (t + 1)) ∧ _ < t + (d + 1) ∧ bt S (if bt S t then (if l < w t then t else pick w S d (l - w t) (t + 1)) else pick w S d l (t + 1)) = true
    by_cases hb : bt S t = true
    · rw [if_pos hb] at h' ⊢
      by_cases hl : l < w t
      · rw [if_pos hl]; exact ⟨Nat.le_refl _, by show (if bt S t then (if l < w t then t else pick w S d (l - w t) (t + 1)) else pick w S d l (t + 1)) < _; rw [if_pos hb, if_pos hl]; omega, hb⟩
      · have h2 := pick_ok w S d (l - w t) (t + 1) (by omega)
        rw [if_neg hl]
        refine ⟨by omega, ?_, h2.2.2⟩
        show (if bt S t then (if l < w t then t else pick w S d (l - w t) (t + 1)) else pick w S d l (t + 1)) < _
        rw [if_pos hb, if_neg hl]; omega
    · rw [if_neg hb] at h' ⊢
      have h2 := pick_ok w S d l (t + 1) (by omega)
      refine ⟨by omega, ?_, h2.2.2⟩
      show (if bt S t then (if l < w t then t else pick w S d (l - w t) (t + 1)) else pick w S d l (t + 1)) < _
      rw [if_neg hb]; omega
theorem pick_s (w : Nat → Nat) (S d l t : Nat) : pick w S (d + 1) l t = if bt S t then (if l < w t then t else pick w S d (l - w t) (t + 1)) else pick w S d l (t + 1) := rfl
theorem rsm_s (w : Nat → Nat) (S d t : Nat) : rsm w S (d + 1) t = (if bt S t then w t else 0) + rsm w S d (t + 1) := rfl
theorem c_pick {σ : g_St} {K S N : Nat} {w : Nat → Nat} (hK : σ.1 13 3 = nI K) (hK8 : K ≤ 8) (hw : ∀ t, t < K → σ.1 14 t = nI (w t)) (hb : ∀ t, t < K → w t ≤ 9) (hS : S < 256) : ∀ d t fu l, t + d = K → d < fu → l < rsm w S d t → l < 1000 → m_X7_ticketAt_5 N fu (nI S) (nI l) (nI t) σ = some (nI (pick w S d l t), σ) := by
  intro d
  induction d with
  | zero =>
    intro t fu l ht hf hl
    exact absurd hl (by show ¬ l < 0; omega)
  | succ d ih =>
    intro t fu l ht hf hl h1
    obtain ⟨fu, rfl⟩ : ∃ f, fu = f + 1 := ⟨fu - 1, by omega⟩
    rw [rsm_s] at hl
    have hwt := hb t (by omega)
    unfold m_X7_ticketAt_5
    rw [hK, if_neg (a_nle (a := K) t (by omega) (by omega)), c_holds hS (by omega), Option.bind_some]
    unfold m_X7_ticketAt_43 g_lt
    dsimp only
    rw [pick_s]
    by_cases hbt : bt S t = true
    · rw [if_pos hbt] at hl
      rw [if_pos hbt, if_pos hbt, if_neg n10, if_pos (a_in (show t < 8 by omega) (by omega)), nI_clamp (by omega), hw t (by omega)]
      by_cases q : l < w t
      · rw [if_pos q, if_neg (show ¬ 0 ≤ nI l - nI (w t) from fun z => by have := pk_sneg (a := l) (b := w t) (by omega) q; exact Int32.not_le.mpr this z)]
      · rw [if_neg q, pk_sub (by omega), if_pos (nI_pos' (by omega)), nI_1]
        exact ih (t + 1) fu (l - w t) (by omega) (by omega) (by omega) (by omega)
    · rw [if_neg hbt] at hl
      rw [if_neg hbt, if_neg hbt, if_pos rfl, nI_1]
      exact ih (t + 1) fu l (by omega) (by omega) (by omega) h1
theorem r_pick {σ : g_St} {K S N : Nat} {w : Nat → Nat} (hK8 : K ≤ 8) (hw : ∀ t, t < K → σ.1 79 (21 + 3 * t + 1) = nI (w t)) (hb : ∀ t, t < K → w t ≤ 9) (hS : S < 256) (h2 : σ.1 81 2 = nI S) : ∀ d t fu l, t + d = K → d < fu → l < rsm w S d t → l < 1000 → m_X11_lot_43 N fu (nI l) (nI t) σ = some (nI (pick w S d l t), σ) := by
  intro d
  induction d with
  | zero =>
    intro t fu l ht hf hl
    exact absurd hl (by show ¬ l < 0; omega)
  | succ d ih =>
    intro t fu l ht hf hl h1
    obtain ⟨fu, rfl⟩ : ∃ f, fu = f + 1 := ⟨fu - 1, by omega⟩
    rw [rsm_s] at hl
    have hwt := hb t (by omega)
    unfold m_X11_lot_43
    unfold m_X11_lot_65 m_X11_lot_89 g_lt
    rw [h2, pick_s]
    by_cases hbt : bt S t = true
    · rw [if_pos hbt] at hl
      rw [if_pos hbt, bit1 hS (by omega) hbt, if_neg n10, r_w1 (by omega) (hw t (by omega)), Option.bind_some]
      dsimp only
      by_cases q : l < w t
      · rw [if_pos q, if_pos (a_lt (w t) q (by omega))]
      · rw [if_neg q, if_neg (a_nlt (w t) (by omega) (by omega)), h2, bit1 hS (by omega) hbt, if_pos rfl, r_w1 (by omega) (hw t (by omega)), Option.bind_some]
        dsimp only
        rw [pk_sub (by omega), nI_1]
        exact ih (t + 1) fu (l - w t) (by omega) (by omega) (by omega) (by omega)
    · rw [if_neg hbt] at hl
      have e0 : nI l - 0 = nI l := pk_sub (b := 0) (by omega)
      rw [if_neg hbt, bit0 hS (by omega) hbt, if_pos rfl, if_neg n01, e0, nI_1]
      exact ih (t + 1) fu l (by omega) (by omega) (by omega) h1
theorem bt_ex : ∀ S, S < 256 → 0 < S → ∃ t, t < 8 ∧ bt S t = true ∧ 2 ^ t ≤ S := by decide +kernel
theorem wsm_ge {w : Nat → Nat} {S t : Nat} (hb : bt S t = true) : ∀ K, t < K → w t ≤ wsm w S K
  | 0, h => absurd h (by omega)
  | K + 1, h => by
    rw [wsm_s]
    by_cases e : t = K
    · subst e; rw [if_pos hb]; omega
    · have := wsm_ge (w := w) hb K (by omega)
      omega
theorem wsm_pos {w : Nat → Nat} {S K : Nat} (hK : K ≤ 8) (hS : S < 2 ^ K) (h0 : 0 < S) (hw : ∀ t, t < K → 1 ≤ w t) : 0 < wsm w S K := by
  have h8 := pow8 hK
  obtain ⟨t, t1, t2, t3⟩ := bt_ex S (by omega) h0
  have htK : t < K := (Nat.pow_lt_pow_iff_right (by omega : 1 < 2)).mp (Nat.lt_of_le_of_lt t3 hS)
  have := wsm_ge (w := w) t2 K htK
  have := hw t htK
  omega
/-- the ticket that a lot picks -/
theorem lotT_ex : ∃ f : Tw → Nat → Nat → Nat, ∀ w S s, f w S s = pick (tW w) S (tK w) (s / 65536 % wsm (tW w) S (tK w)) 0 := ⟨fun w S s => pick (tW w) S (tK w) (s / 65536 % wsm (tW w) S (tK w)) 0, fun _ _ _ => rfl⟩
noncomputable def lotT : Tw → Nat → Nat → Nat := Classical.choose lotT_ex
theorem lotT_eq (w : Tw) (S s : Nat) : lotT w S s = pick (tW w) S (tK w) (s / 65536 % wsm (tW w) S (tK w)) 0 := Classical.choose_spec lotT_ex w S s
theorem lot_pre {w : Tw} {S : Nat} (hw : TwOK w) (hS : S < 2 ^ tK w) (h0 : 0 < S) : 0 < wsm (tW w) S (tK w) ∧ wsm (tW w) S (tK w) ≤ 72 ∧ rsm (tW w) S (tK w) 0 = wsm (tW w) S (tK w) := by
  have hK := hw.2.1
  refine ⟨wsm_pos hK hS h0 (fun t ht => (hw.2.2.2.2.2.2.1 t ht).1), ?_, ?_⟩
  · have := wsm_le (w := tW w) (S := S) (b := 9) (tK w) (fun t ht => (hw.2.2.2.2.2.2.1 t ht).2)
    omega
  · have := rsm_wsm (tW w) S (tK w) 0
    rw [show wsm (tW w) S 0 = 0 from rfl, Nat.zero_add, Nat.zero_add] at this
    exact this
theorem lotT_ok {w : Tw} {S s : Nat} (hw : TwOK w) (hS : S < 2 ^ tK w) (h0 : 0 < S) : lotT w S s < tK w ∧ bt S (lotT w S s) = true := by
  obtain ⟨p1, p2, p3⟩ := lot_pre hw hS h0
  have h := pick_ok (tW w) S (tK w) (s / 65536 % wsm (tW w) S (tK w)) 0 (by rw [p3]; exact Nat.mod_lt _ p1)
  rw [lotT_eq]
  exact ⟨by omega, h.2.2⟩
theorem div65 {s : Nat} (h : s < 2 ^ 31) : nI s / (65536 : Int32) = nI (s / 65536) := pk_div (d := 65536) h (by omega) (by omega)
theorem c_lotT {σ : g_St} {w : Tw} {S s N : Nat} (hw : TwOK w) (hT : CT w σ) (hS : S < 2 ^ tK w) (h0 : 0 < S) (hs : s < 2 ^ 31) (hN : 8 < N) : m_X10_lotOf (nI s) (nI (wsm (tW w) S (tK w))) σ = some (nI (s / 65536 % wsm (tW w) S (tK w)), σ) ∧ m_X7_ticketAt N (nI S) (nI (s / 65536 % wsm (tW w) S (tK w))) σ = some (nI (lotT w S s), σ) := by
  obtain ⟨p1, p2, p3⟩ := lot_pre hw hS h0
  have hK := hw.2.1
  have h8 := pow8 hK
  have hm := Nat.mod_lt (s / 65536) p1
  refine ⟨?_, ?_⟩
  · unfold m_X10_lotOf
    rw [if_pos (show (1 : Int32) ≤ nI _ from a_le (a := 1) _ p1 (by omega)), if_neg (nI_ne0 p1 (by omega)), div65 hs, pk_rem (by omega) p1 (by omega)]
  · unfold m_X7_ticketAt
    rw [lotT_eq]
    exact c_pick hT.2.1 hK hT.2.2.2.2.2 (fun t ht => (hw.2.2.2.2.2.2.1 t ht).2) (by omega) (tK w) 0 N _ (by omega) (by omega) (by rw [p3]; exact hm) (by omega)
theorem r_lotT {σ : g_St} {w : Tw} {S s N : Nat} (hw : TwOK w) (hT : RT w (σ.1 79)) (h2 : σ.1 81 2 = nI S) (h8 : σ.1 77 8 = nI s) (hS : S < 2 ^ tK w) (h0 : 0 < S) (hs : s < 2 ^ 31) (hN : 8 < N) : m_X11_lot N σ = some (nI (lotT w S (nxs s)), g_sI σ 77 8 (nI (nxs s))) := by
  obtain ⟨p1, p2, p3⟩ := lot_pre hw hS h0
  have hK := hw.2.1
  have h256 := pow8 hK
  have hm := Nat.mod_lt (nxs s / 65536) p1
  have hn := nxs_lt s
  unfold m_X11_lot g_lt
  rw [h8, r_next hs]
  dsimp only
  rw [sI_o (by omega), h2, r_wt (w := tW w) (K := tK w) (by simp (disch := omega) only [sI_o, sI_k, sI_n, sA_o, sA_s, sI_2, sA_2, sL_1, sL_o]; exact hT.2.1) hK (fun t ht => by simp (disch := omega) only [sI_o, sI_k, sI_n, sA_o, sA_s, sI_2, sA_2, sL_1, sL_o]; exact hT.2.2.2.2.2 t ht) (by omega) hN, Option.bind_some]
  dsimp only
  rw [if_neg (nI_ne0 p1 (by omega)), sI_k, div65 hn, pk_rem (by omega) p1 (by omega)]
  rw [lotT_eq]
  exact r_pick hK (fun t ht => by simp (disch := omega) only [sI_o, sI_k, sI_n, sA_o, sA_s, sI_2, sA_2, sL_1, sL_o]; exact hT.2.2.2.2.2 t ht) (fun t ht => (hw.2.2.2.2.2.2.1 t ht).2) (by omega) (by simp (disch := omega) only [sI_o, sI_k, sI_n, sA_o, sA_s, sI_2, sA_2, sL_1, sL_o]; exact h2) (tK w) 0 N _ (by omega) (by omega) (by rw [p3]; exact hm) (by omega)
/-- one lot drawn -/
noncomputable def lotS (d : Dt) : Nat := nxs (dSeed d)
noncomputable def lotK (d : Dt) : Nat := lotT (dT d) (nS (dN d)) (nxs (dSeed d))
abbrev dLotG (d : Dt) (s t : Nat) : Dt := dsU (dsSeed d s) (drawn (dT d) (tR (dT d)) (dN d) t) (pushU (dU d) (dN d))
theorem dsSeed_ok {d : Dt} {s : Nat} (ok : OK d) (h : s < 2 ^ 31) : OK (dsSeed d s) := by
  obtain ⟨o1, o2, o3, o4⟩ := ok
  exact ⟨o1, o2, ⟨h, o3.2⟩, o4⟩
theorem dLotG_ok {d : Dt} {s t : Nat} (ok : OK d) (hs : s < 2 ^ 31) (ht : t < tK (dT d)) (hy : nY (dN d) < 90200) : OK (dLotG d s t) := dsU_ok (d := dsSeed d s) (dsSeed_ok ok hs) ht hy
theorem dLotG_y {d : Dt} {s t : Nat} : nY (dN (dLotG d s t)) ≤ nY (dN d) + 1 := drawn_year _ _ _ _
theorem y_step {d : Dt} {s t m : Nat} (h : nY (dN d) + (m + 1) ≤ 90200) : nY (dN (dLotG d s t)) + m ≤ 90200 := by
  have h2 := dLotG_y (d := d) (s := s) (t := t)
  generalize nY (dN (dLotG d s t)) = a at *
  generalize nY (dN d) = b at *
  omega
theorem y_step0 {d : Dt} {m : Nat} (h : nY (dN d) + (m + 1) ≤ 90200) : nY (dN d) < 90200 := by
  generalize nY (dN d) = b at *
  omega
theorem lotK_ok {d : Dt} (ok : OK d) (hK : 0 < tK (dT d)) : lotK d < tK (dT d) ∧ lotS d < 2 ^ 31 := ⟨(lotT_ok ok.1 ok.2.1.2.2.1 (ok.2.1.2.2.2.1 hK)).1, nxs_lt _⟩
noncomputable def itD : Nat → Dt → Dt
  | 0, d => d
  | m + 1, d => itD m (dLotG d (lotS d) (lotK d))
noncomputable def itT : Nat → Dt → Int32 → Int32
  | 0, _, l => l
  | m + 1, d, _ => itT m (dLotG d (lotS d) (lotK d)) (nI (lotK d))
theorem itD_ok : ∀ m d, OK d → 0 < tK (dT d) → nY (dN d) + m ≤ 90200 → OK (itD m d)
  | 0, d, ok, _, _ => ok
  | m + 1, d, ok, hK, hy => by
    obtain ⟨l1, l2⟩ := lotK_ok ok hK
    exact itD_ok m (dLotG d (lotS d) (lotK d)) (dLotG_ok ok l2 l1 (y_step0 hy)) hK (y_step hy)
theorem CC_seed {d : Dt} {σ : g_St} {s : Nat} (h : CC d σ) : CC (dsSeed d s) (g_sI σ 0 14 (nI s)) := by
  obtain ⟨⟨a1, a2, a3⟩, h2, h3, h4⟩ := h
  refine ⟨⟨CT_k a1 (fun c _ _ => sI_o (by omega)), CN_k a2 (fun c _ _ => sI_o (by omega)), sI_k⟩, CCu_k h2 rfl rfl (fun c _ _ => sI_o (by omega)), CCk_k h3 rfl rfl (fun c _ _ => sI_o (by omega)), ?_⟩
  unfold CCs at *; simp (disch := omega) only [sI_o, sI_k, sI_n, sA_o, sA_s, sI_2, sA_2, sL_1, sL_o]; exact h4
theorem c_lot_step {d : Dt} {σ : g_St} {s t : Nat} (ok : OK d) (h : CC d σ) (hs : s < 2 ^ 31) (ht : t < tK (dT d)) : ∃ τ, m_X10_drawTicket (nI t) (g_sI σ 0 14 (nI s)) = some (nI (who (dN d) t), τ) ∧ CC (dLotG d s t) τ ∧ keepR σ τ := by
  obtain ⟨τ, t1, t2, t3⟩ := c_drawTicket (d := dsSeed d s) (t := t) (dsSeed_ok ok hs) (CC_seed h) ht
  exact ⟨τ, t1, t2, keepR_tr (keepR_I (by omega)) t3⟩
theorem c_lot_pre {d : Dt} {σ : g_St} {N : Nat} {k5 : Int32 × g_St → Option (Int32 × g_St)} (ok : OK d) (hK : 0 < tK (dT d)) (h : CC d σ) (hN : 8 < N) : ((m_X10_nextSeed (σ.1 0 14) σ).bind fun q2 => (g_lt (g_sI q2.2 0 14 q2.1) fun σ3 => ((m_X7_weightOf N (σ3.1 16 5) σ3).bind fun q4 => ((m_X10_lotOf (σ3.1 0 14) q4.1 q4.2).bind fun q5 => ((m_X7_ticketAt N (σ3.1 16 5) q5.1 q5.2).bind k5))))) = k5 (nI (lotK d), g_sI σ 0 14 (nI (lotS d))) := by
  have l2 := nxs_lt (dSeed d)
  have hc := CC_seed (s := nxs (dSeed d)) h
  have hS := ok.2.1.2.2.1
  have h0 := ok.2.1.2.2.2.1 hK
  have h8 : nS (dN d) < 256 := Nat.lt_of_lt_of_le hS (pow8 ok.1.2.1)
  obtain ⟨x1, x2⟩ := c_lotT (σ := g_sI σ 0 14 (nI (nxs (dSeed d)))) (N := N) (s := nxs (dSeed d)) ok.1 hc.1.1 hS h0 l2 hN
  unfold lotK lotS g_lt
  rw [h.1.2.2, c_next ok.2.2.1.1, Option.bind_some]
  dsimp only
  generalize nxs (dSeed d) = s at *
  rw [hc.1.2.1.2.2.1, c_wt (w := tW (dT d)) (K := tK (dT d)) hc.1.1.2.1 ok.1.2.1 hc.1.1.2.2.2.2.2 h8 hN, Option.bind_some]
  dsimp only
  rw [sI_k, x1, Option.bind_some]
  dsimp only
  rw [x2, Option.bind_some]
theorem c_lots_loop {n N : Nat} (hn : n ≤ 99) (hN : 8 < N) : ∀ m k fu d σ last, OK d → 0 < tK (dT d) → CC d σ → k + m = n → m < fu → nY (dN d) + m ≤ 90200 → ∃ τ, m_X10_lots_46 N fu (nI n) last (nI k) σ = some (itT m d last, τ) ∧ CC (itD m d) τ ∧ keepR σ τ := by
  intro m
  induction m with
  | zero =>
    intro k fu d σ last ok hK h hk hf hy
    obtain ⟨fu, rfl⟩ : ∃ f, fu = f + 1 := ⟨fu - 1, by omega⟩
    refine ⟨σ, ?_, h, keepR_rf σ⟩
    unfold m_X10_lots_46
    rw [if_pos (a_le k (by omega) (by omega))]
    rfl
  | succ m ih =>
    intro k fu d σ last ok hK h hk hf hy
    obtain ⟨fu, rfl⟩ : ∃ f, fu = f + 1 := ⟨fu - 1, by omega⟩
    obtain ⟨l1, l2⟩ := lotK_ok ok hK
    obtain ⟨τ, t1, t2, t3⟩ := c_lot_step ok h l2 l1
    obtain ⟨υ, u1, u2, u3⟩ := ih (k + 1) fu (dLotG d (lotS d) (lotK d)) τ (nI (lotK d)) (dLotG_ok ok l2 l1 (y_step0 hy)) hK t2 (by omega) (by omega) (y_step hy)
    refine ⟨υ, ?_, u2, keepR_tr t3 u3⟩
    unfold m_X10_lots_46
    rw [if_neg (a_nle (a := n) k (by omega) (by omega)), c_lot_pre ok hK h hN]
    dsimp only
    rw [t1, Option.bind_some]
    unfold g_lt
    dsimp only
    rw [nI_1, u1]
    rfl
theorem RR_notes {d : Dt} {σ : g_St} {N : Nat} (hN : 1170 < N) (ok : OK d) (h : RR d σ) : ∃ x, m_X11_notes N σ = some x ∧ RR (dsU d (dN d) (pushU (dU d) (dN d))) x ∧ keepC σ x := by
  obtain ⟨x, x1, x2, x3, x5, x4⟩ := r_notesU hN ok h
  obtain ⟨⟨a1, a2, a3⟩, h2, h3, h4⟩ := h
  refine ⟨x, x1, ⟨⟨?_, ?_, ?_⟩, x2, ?_, ?_⟩, fun c hc => ⟨x3 c (by omega) (by omega), by rw [x4]⟩⟩
  · rw [x3 79 (by omega) (by omega)]; exact a1
  · rw [x3 81 (by omega) (by omega)]; exact a2
  · rw [x5 8 (by omega)]; exact a3
  · exact RRk_k h3 rfl rfl (x3 92 (by omega) (by omega))
  · unfold RRs at *
    rw [x5 17 (by omega), x5 19 (by omega), x5 21 (by omega), x5 3 (by omega), x5 6 (by omega), x3 89 (by omega) (by omega), x3 90 (by omega) (by omega), x3 91 (by omega) (by omega), x3 80 (by omega) (by omega)]
    exact h4
theorem RR_seed {d : Dt} {σ : g_St} {s : Nat} (h : RR d σ) : RR (dsSeed d s) (g_sI σ 77 8 (nI s)) := by
  obtain ⟨⟨a1, a2, a3⟩, h2, h3, h4⟩ := h
  refine ⟨⟨a1, a2, sI_k⟩, RRu_k h2 rfl rfl (sI_n (by omega)) (sI_o (by omega)), RRk_k h3 rfl rfl (sI_o (by omega)), ?_⟩
  unfold RRs at *; simp (disch := omega) only [sI_o, sI_k, sI_n, sA_o, sA_s, sI_2, sA_2, sL_1, sL_o]; exact h4
theorem RR_draws {d : Dt} {σ : g_St} {t : Nat} (hw : TwOK (dT d)) (hv : NwO (dT d) (dN d)) (hy : nY (dN d) < 1000000) (h : RR d σ) (ht : t < tK (dT d)) : ∃ τ, m_X11_draws (nI t) (σ.1 79 3) σ = some τ ∧ RR (dsU d (drawn (dT d) (tR (dT d)) (dN d) t) (dU d)) τ ∧ keepC σ τ := by
  obtain ⟨⟨a1, a2, a3⟩, h2, h3, h4⟩ := h
  obtain ⟨τ, t1, t2, t3, t4⟩ := r_draws (t := t) (R := tR (dT d)) hw hv hy a1 a2 ht hw.2.2.2.2.1
  refine ⟨τ, by rw [a1.2.2.2.1]; exact t1, ⟨⟨?_, t2, ?_⟩, ?_, ?_, ?_⟩, fun c hc => ⟨t3 c (by omega), by rw [t4]⟩⟩
  · rw [t3 79 (by omega)]; exact a1
  · rw [t3 77 (by omega)]; exact a3
  · exact RRu_k h2 rfl rfl (by rw [t3 77 (by omega)]) (t3 82 (by omega))
  · exact RRk_k h3 rfl rfl (t3 92 (by omega))
  · unfold RRs at *
    rw [t3 77 (by omega), t3 89 (by omega), t3 90 (by omega), t3 91 (by omega), t3 80 (by omega)]
    exact h4
theorem r_lot_pre {d : Dt} {x : g_St} {l : List Nw} {N : Nat} (ok : OK d) (hK : 0 < tK (dT d)) (h : RR (dsU d (dN d) l) x) (hN : 8 < N) : m_X11_lot N x = some (nI (lotK d), g_sI x 77 8 (nI (lotS d))) := by
  have hS := ok.2.1.2.2.1
  have h0 := ok.2.1.2.2.2.1 hK
  exact r_lotT (σ := x) (N := N) ok.1 h.1.1 h.1.2.1.2.2.1 h.1.2.2 hS h0 ok.2.2.1.1 hN
theorem r_lot_step {d : Dt} {σ : g_St} {s t : Nat} (ok : OK d) (h : RR (dsU d (dN d) (pushU (dU d) (dN d))) σ) (ht : t < tK (dT d)) : ∃ τ, m_X11_draws (nI t) ((g_sI σ 77 8 (nI s)).1 79 3) (g_sI σ 77 8 (nI s)) = some τ ∧ RR (dLotG d s t) τ ∧ keepC σ τ := by
  have hy : nY (dN d) < 1000000 := Nat.lt_of_le_of_lt ok.2.1.1 (by omega)
  obtain ⟨τ, t1, t2, t3⟩ := RR_draws (d := dsSeed (dsU d (dN d) (pushU (dU d) (dN d))) s) (t := t) ok.1 ok.2.1.o hy (RR_seed (s := s) h) ht
  exact ⟨τ, t1, t2, keepC_tr (keepC_I (by omega)) t3⟩
theorem r_lots_loop {n N : Nat} (hn : n ≤ 99) (hN : 1170 < N) : ∀ m k fu d σ last, OK d → 0 < tK (dT d) → RR d σ → k + m = n → m < fu → nY (dN d) + m ≤ 90200 → ∃ τ, m_X11_lots_45 N fu (nI n) last (nI k) σ = some (itT m d last, τ) ∧ RR (itD m d) τ ∧ keepC σ τ := by
  intro m
  induction m with
  | zero =>
    intro k fu d σ last ok hK h hk hf hy
    obtain ⟨fu, rfl⟩ : ∃ f, fu = f + 1 := ⟨fu - 1, by omega⟩
    refine ⟨σ, ?_, h, keepC_rf σ⟩
    unfold m_X11_lots_45
    rw [if_pos (a_le k (by omega) (by omega))]
    rfl
  | succ m ih =>
    intro k fu d σ last ok hK h hk hf hy
    obtain ⟨fu, rfl⟩ : ∃ f, fu = f + 1 := ⟨fu - 1, by omega⟩
    obtain ⟨l1, l2⟩ := lotK_ok ok hK
    obtain ⟨x, x1, x2, x3⟩ := RR_notes hN ok h
    have y1 := r_lot_pre ok hK x2 (by omega : 8 < N)
    obtain ⟨τ, t1, t2, t3⟩ := r_lot_step (d := d) (σ := x) (s := lotS d) ok x2 l1
    obtain ⟨υ, u1, u2, u3⟩ := ih (k + 1) fu (dLotG d (lotS d) (lotK d)) τ (nI (lotK d)) (dLotG_ok ok l2 l1 (y_step0 hy)) hK t2 (by omega) (by omega) (y_step hy)
    refine ⟨υ, ?_, u2, keepC_tr (keepC_tr x3 t3) u3⟩
    unfold m_X11_lots_45
    rw [if_neg (a_nle (a := n) k (by omega) (by omega)), x1, Option.bind_some, y1, Option.bind_some]
    dsimp only
    rw [t1, Option.bind_some]
    unfold g_lt
    dsimp only
    rw [nI_1, u1]
    rfl
theorem lt1n {x : Int32} {n : Nat} (hx : ¬ (nI 1 ≤ x ∧ x ≤ nI n)) : x < (1 : Int32) ∨ (¬ x < (1 : Int32) ∧ ¬ x ≤ nI n) := by
  by_cases q : x < (1 : Int32)
  · exact Or.inl q
  · exact Or.inr ⟨q, fun z => hx ⟨lt_nle q, z⟩⟩
set_option maxHeartbeats 1000000 in
theorem sp_lots (N : Nat) (hN : 1170 < N) (x : Int32) : Sp (m_X10_lots N x) (m_X11_lots N x) := by
  intro d ok
  have hK8 : tK (dT d) ≤ 8 := ok.1.2.1
  have hy := ok.2.1.1
  have e1 : (1 : Int64) = (nI 1).toInt64 := by decide
  have e99 : (99 : Int64) = (nI 99).toInt64 := by decide
  rcases rng_cases x 1 99 (by omega) (by omega) with ⟨n, h1, h2, rfl⟩ | hx
  · have hr : nI 1 ≤ nI n ∧ nI n ≤ nI 99 := ⟨a_le n h1 (by omega), a_le 99 h2 (by omega)⟩
    have q1 : ¬ nI n < (1 : Int32) := a_nlt 1 h1 (by omega)
    have q2 : nI n ≤ (99 : Int32) := hr.2
    by_cases hK : tK (dT d) = 0
    · refine ⟨-1000000003, d, ok, fun σ h => ⟨σ, ?_, h, keepR_rf σ⟩, fun σ h => ⟨σ, ?_, h, keepC_rf σ⟩⟩
      · unfold m_X10_lots
        rw [if_neg q1, if_pos q2, h.1.1.2.1, hK, if_pos (show nI 0 = 0 from rfl)]
      · unfold m_X11_lots
        rw [e1, e99, r_inR, Option.bind_some]
        dsimp only
        rw [if_pos hr, if_neg n10, h.1.1.2.1, hK, if_pos (show nI 0 = 0 from rfl)]
    · have hK0 : ¬ nI (tK (dT d)) = 0 := nI_ne0 (by omega) (by omega)
      by_cases hyr : nY (dN d) ≤ 90000
      · have q3 : nI (nY (dN d)) ≤ (90000 : Int32) := a_le 90000 hyr (by omega)
        refine ⟨itT n d (-1), itD n d, itD_ok n d ok (by omega) (by omega), fun σ h => ?_, fun σ h => ?_⟩
        · obtain ⟨τ, t1, t2, t3⟩ := c_lots_loop h2 (by omega : 8 < N) n 0 N d σ (-1) ok (by omega) h (by omega) (by omega) (by omega)
          refine ⟨τ, ?_, t2, t3⟩
          unfold m_X10_lots
          rw [if_neg q1, if_pos q2, h.1.1.2.1, if_neg hK0, h.1.2.1.1, if_pos q3]
          exact t1
        · obtain ⟨τ, t1, t2, t3⟩ := r_lots_loop h2 hN n 0 N d σ (-1) ok (by omega) h (by omega) (by omega) (by omega)
          refine ⟨τ, ?_, t2, t3⟩
          unfold m_X11_lots
          rw [e1, e99, r_inR, Option.bind_some]
          dsimp only
          rw [if_pos hr, if_neg n10, h.1.1.2.1, if_neg hK0, h.1.2.1.1, if_pos q3]
          exact t1
      · have q3 : ¬ nI (nY (dN d)) ≤ (90000 : Int32) := a_nle 90000 (by omega) (by omega)
        refine ⟨-1000000004, d, ok, fun σ h => ⟨σ, ?_, h, keepR_rf σ⟩, fun σ h => ⟨σ, ?_, h, keepC_rf σ⟩⟩
        · unfold m_X10_lots
          rw [if_neg q1, if_pos q2, h.1.1.2.1, if_neg hK0, h.1.2.1.1, if_neg q3]
        · unfold m_X11_lots
          rw [e1, e99, r_inR, Option.bind_some]
          dsimp only
          rw [if_pos hr, if_neg n10, h.1.1.2.1, if_neg hK0, h.1.2.1.1, if_neg q3]
  · refine ⟨-1000000002, d, ok, fun σ h => ⟨σ, ?_, h, keepR_rf σ⟩, fun σ h => ⟨σ, ?_, h, keepC_rf σ⟩⟩
    · unfold m_X10_lots
      rcases lt1n hx with q | ⟨q, q2⟩
      · rw [if_pos q]
      · rw [if_neg q, if_neg (show ¬ x ≤ (99 : Int32) from q2)]
    · unfold m_X11_lots
      rw [e1, e99, r_inR, Option.bind_some]
      dsimp only
      rw [if_neg hx, if_pos rfl]
