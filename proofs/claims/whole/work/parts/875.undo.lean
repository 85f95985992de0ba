/-! draw, undo -/
def pushU (l : List Nw) (v : Nw) : List Nw := (if l.length = 30 then l.drop 1 else l) ++ [v]
theorem pushU_len {l : List Nw} {v : Nw} (h : l.length ≤ 30) : (pushU l v).length = if l.length = 30 then 30 else l.length + 1 := by
  unfold pushU
  by_cases e : l.length = 30
  · rw [if_pos e, if_pos e, List.length_append, List.length_drop, e]; rfl
  · rw [if_neg e, if_neg e, List.length_append]; rfl
theorem pushU_get {l : List Nw} {v u : Nw} {i : Nat} (h : l.length ≤ 30) (hu : (pushU l v)[i]? = some u) : (i + 1 = (pushU l v).length ∧ u = v) ∨ (i + 1 < (pushU l v).length ∧ l[if l.length = 30 then i + 1 else i]? = some u) := by
  unfold pushU at *
  generalize hm : (if l.length = 30 then l.drop 1 else l) = m at *
  by_cases e : i < m.length
  · refine Or.inr ⟨by rw [List.length_append]; simp; omega, ?_⟩
    rw [List.getElem?_append_left e, ← hm] at hu
    by_cases e30 : l.length = 30
    · rw [if_pos e30] at hu ⊢
      rw [List.getElem?_drop] at hu
      rw [Nat.add_comm]; exact hu
    · rw [if_neg e30] at hu ⊢
      exact hu
  · rw [List.getElem?_append_right (by omega)] at hu
    have h0 : i - m.length < 1 := (List.getElem?_eq_some_iff.mp hu).1
    rw [show i - m.length = 0 by omega] at hu
    refine Or.inl ⟨by rw [List.length_append]; simp; omega, ?_⟩
    cases hu
    rfl
theorem pushU_ok {w : Tw} {l : List Nw} {v : Nw} (h : ∀ u ∈ l, NwOK w u) (hv : NwOK w v) : ∀ u ∈ pushU l v, NwOK w u := by
  intro u hu
  unfold pushU at hu
  rcases List.mem_append.mp hu with q | q
  · by_cases e : l.length = 30
    · rw [if_pos e] at q; exact h u (List.mem_of_mem_drop q)
    · rw [if_neg e] at q; exact h u q
  · rw [List.mem_singleton.mp q]; exact hv
abbrev dsU (d : Dt) (v : Nw) (l : List Nw) : Dt := ((d.1.1, v), (d.2.1.1, l, d.2.1.2.2), d.2.2)
theorem r_notesU {d : Dt} {σ : g_St} {N : Nat} (hN : 1170 < N) (ok : OK d) (h : RR d σ) : ∃ τ, m_X11_notes N σ = some τ ∧ RRu (dsU d (dN d) (pushU (dU d) (dN d))) τ ∧ (∀ c, c ≠ 77 → c ≠ 82 → τ.1 c = σ.1 c) ∧ (∀ j, j ≠ 9 → τ.1 77 j = σ.1 77 j) ∧ τ.2 = σ.2 := by
  have hw := ok.1
  have hl := ok.2.2.2.1.1
  obtain ⟨⟨a1, a2, a3⟩, ⟨h9, h2⟩, h3, h4⟩ := h
  rw [r_notes hN hl h9]
  have hpl := pushU_len (l := dU d) (v := dN d) hl
  by_cases e30 : (dU d).length = 30
  · rw [if_pos e30] at hpl ⊢
    refine ⟨_, rfl, ⟨?_, fun i u hu => ?_⟩, fun c c1 c2 => ?_, fun j hj => ?_, rfl⟩
    · show _ = nI (pushU (dU d) (dN d)).length
      rw [sI_k, hpl]
    · have hu' : (pushU (dU d) (dN d))[i]? = some u := hu
      rcases pushU_get hl hu' with ⟨q1, q2⟩ | ⟨q1, q2⟩
      · rw [hpl] at q1
        subst q2
        have ei : i = 29 := by omega
        subst ei
        refine RN_ext hw a2 (fun j hj => ?_)
        rw [sI_o (by omega), cpS_at (o := 39 * 29) (o' := 0) hj]
        simp (disch := omega) only [sI_o, sI_k, sI_n, sA_o, sA_s, sI_2, sA_2, sL_1, sL_o]
        rw [Nat.zero_add]
      · rw [hpl] at q1
        rw [if_pos e30] at q2
        refine RN_ext hw (h2 (i + 1) u q2) (fun j hj => ?_)
        rw [sI_o (by omega), cpS_n (by omega)]
        simp (disch := omega) only [sI_o, sI_k, sI_n, sA_o, sA_s, sI_2, sA_2, sL_1, sL_o]
        unfold shf
        rw [if_pos (by omega), show 39 * i + j + 39 = 39 * (i + 1) + j by omega]
    · rw [sI_o c1, cpS_o c2]; simp (disch := omega) only [sI_o, sI_k, sI_n, sA_o, sA_s, sI_2, sA_2, sL_1, sL_o]
    · rw [sI_n hj, cpS_o (by omega), sI_n hj]; simp (disch := omega) only [sI_o, sI_k, sI_n, sA_o, sA_s, sI_2, sA_2, sL_1, sL_o]
  · rw [if_neg e30] at hpl ⊢
    refine ⟨_, rfl, ⟨?_, fun i u hu => ?_⟩, fun c c1 c2 => ?_, fun j hj => ?_, rfl⟩
    · show _ = nI (pushU (dU d) (dN d)).length
      rw [sI_k, hpl]
    · have hu' : (pushU (dU d) (dN d))[i]? = some u := hu
      rcases pushU_get hl hu' with ⟨q1, q2⟩ | ⟨q1, q2⟩
      · rw [hpl] at q1
        subst q2
        have ei : i = (dU d).length := by omega
        subst ei
        refine RN_ext hw a2 (fun j hj => ?_)
        rw [sI_o (by omega), cpS_at (o := 39 * (dU d).length) (o' := 0) hj, Nat.zero_add]
      · rw [hpl] at q1
        rw [if_neg e30] at q2
        refine RN_ext hw (h2 i u q2) (fun j hj => ?_)
        rw [sI_o (by omega), cpS_n (by omega)]
    · rw [sI_o c1, cpS_o c2]
    · rw [sI_n hj, cpS_o (by omega)]
theorem rem30 {a : Nat} (h : a < 1000) : nI a - nI a / (30 : Int32) * (30 : Int32) = nI (a % 30) := pk_rem (d := 30) (by omega) (by omega) (by omega)
theorem c_add {d : Dt} {σ : g_St} (ok : OK d) (h : CC d σ) : ∃ τ, m_X5_add σ = some τ ∧ CCu (dsU d (dN d) (pushU (dU d) (dN d))) τ ∧ (∀ c, (c < 22 ∨ 54 ≤ c) → τ.1 c = σ.1 c) ∧ τ.2 = σ.2 := by
  have hw := ok.1
  have hl := ok.2.2.2.1.1
  obtain ⟨⟨a1, a2, a3⟩, ⟨h2, nx, n1, n2, n3⟩, h3, h4⟩ := h
  have hpl := pushU_len (l := dU d) (v := dN d) hl
  have hple : (pushU (dU d) (dN d)).length ≤ 30 := by rw [hpl]; split <;> omega
  obtain ⟨x, x1, x2, x3, x4⟩ := c_pack (row := 24 + nx) hw a2 (by omega)
  have x22 : x.1 22 = σ.1 22 := x3 22 (by omega)
  unfold m_X5_add g_lt
  rw [n2, if_pos (a_in n1 (by omega)), nI_clamp (by omega), x1, Option.bind_some, x22, n2, nI_1, rem30 (by omega)]
  dsimp only
  rw [sI_n (by omega), x22, h2]
  have key : ∀ τ : g_St, τ.1 22 2 = nI (pushU (dU d) (dN d)).length → τ.1 22 1 = nI ((nx + 1) % 30) → (∀ c, c ≠ 22 → τ.1 c = x.1 c) → τ.2 = x.2 → CCu (dsU d (dN d) (pushU (dU d) (dN d))) τ ∧ (∀ c, (c < 22 ∨ 54 ≤ c) → τ.1 c = σ.1 c) ∧ τ.2 = σ.2 := by
    intro τ t1 t2 t3 t4
    refine ⟨⟨t1, (nx + 1) % 30, by omega, t2, fun i u hu => ?_⟩, fun c hc => by rw [t3 c (by omega), x3 c (by omega)], t4.trans x4⟩
    have hu' : (pushU (dU d) (dN d))[i]? = some u := hu
    have hlen : (dU (dsU d (dN d) (pushU (dU d) (dN d)))).length = (pushU (dU d) (dN d)).length := rfl
    rw [hlen, t3 _ (by omega)]
    rcases pushU_get hl hu' with ⟨q1, q2⟩ | ⟨q1, q2⟩
    · subst q2
      have e : ((nx + 1) % 30 + 30 - (pushU (dU d) (dN d)).length + i) % 30 = nx := by omega
      rw [e]
      exact x2
    · by_cases e30 : (dU d).length = 30
      · rw [if_pos e30] at hpl q2
        have hv := n3 (i + 1) u q2
        have e : ((nx + 1) % 30 + 30 - (pushU (dU d) (dN d)).length + i) % 30 = (nx + 30 - (dU d).length + (i + 1)) % 30 := by omega
        rw [e, x3 _ (by omega)]
        exact hv
      · rw [if_neg e30] at hpl q2
        have hv := n3 i u q2
        have e : ((nx + 1) % 30 + 30 - (pushU (dU d) (dN d)).length + i) % 30 = (nx + 30 - (dU d).length + i) % 30 := by omega
        rw [e, x3 _ (by omega)]
        exact hv
  by_cases e30 : (dU d).length = 30
  · rw [if_pos (show (30 : Int32) ≤ nI (dU d).length by rw [e30]; decide)]
    rw [if_pos e30] at hpl
    exact ⟨_, rfl, key _ (by simp (disch := omega) only [sI_o, sI_k, sI_n, sA_o, sA_s, sI_2, sA_2, sL_1, sL_o]; rw [x22, h2, hpl, e30]) (by simp (disch := omega) only [sI_o, sI_k, sI_n, sA_o, sA_s, sI_2, sA_2, sL_1, sL_o]) (fun c hc => by simp (disch := omega) only [sI_o, sI_k, sI_n, sA_o, sA_s, sI_2, sA_2, sL_1, sL_o]) rfl⟩
  · rw [if_neg (show ¬ (30 : Int32) ≤ nI (dU d).length from a_nle (a := 30) _ (by omega) (by omega)), nI_1]
    rw [if_neg e30] at hpl
    exact ⟨_, rfl, key _ (by simp (disch := omega) only [sI_o, sI_k, sI_n, sA_o, sA_s, sI_2, sA_2, sL_1, sL_o]; rw [hpl]) (by simp (disch := omega) only [sI_o, sI_k, sI_n, sA_o, sA_s, sI_2, sA_2, sL_1, sL_o]) (fun c hc => by simp (disch := omega) only [sI_o, sI_k, sI_n, sA_o, sA_s, sI_2, sA_2, sL_1, sL_o]) rfl⟩
theorem c_drawTicket {d : Dt} {σ : g_St} {t : Nat} (ok : OK d) (h : CC d σ) (ht : t < tK (dT d)) : ∃ τ, m_X10_drawTicket (nI t) σ = some (nI (who (dN d) t), τ) ∧ CC (dsU d (drawn (dT d) (tR (dT d)) (dN d) t) (pushU (dU d) (dN d))) τ ∧ keepR σ τ := by
  have hw := ok.1
  obtain ⟨x, x1, x2, x3, x4⟩ := c_add ok h
  obtain ⟨⟨a1, a2, a3⟩, h2, h3, h4⟩ := h
  have b1 : CT (dT d) x := CT_k a1 (fun c _ _ => x3 c (by omega))
  have b2 : CN (dT d) (dN d) x := CN_k a2 (fun c _ _ => x3 c (by omega))
  obtain ⟨τ, t1, t2, t3, t4⟩ := c_drawT hw ok.2.1.o b1 b2 ht
  have hk : ∀ c, (c < 16 ∨ 54 ≤ c) → τ.1 c = σ.1 c := fun c hc => by rw [t3 c (by omega), x3 c (by omega)]
  refine ⟨τ, ?_, ⟨⟨CT_k a1 (fun c _ _ => hk c (by omega)), t2, ?_⟩, CCu_k x2 rfl rfl (fun c _ _ => t3 c (by omega)), CCk_k h3 rfl rfl (fun c _ _ => hk c (by omega)), ?_⟩, fun c hc => ⟨hk c (by omega), by rw [t4, x4]⟩⟩
  · unfold m_X10_drawTicket
    rw [x1, Option.bind_some]
    exact t1
  · rw [hk 0 (by omega)]; exact a3
  · unfold CCs at *
    rw [hk 67 (by omega), hk 68 (by omega), hk 69 (by omega), hk 70 (by omega), hk 74 (by omega), hk 75 (by omega), hk 0 (by omega), hk 1 (by omega)]
    exact h4
/-- the reference: note, then draw -/
theorem r_noteDraw {d : Dt} {σ : g_St} {t N : Nat} (hN : 1170 < N) (ok : OK d) (h : RR d σ) (ht : t < tK (dT d)) : ∃ x τ, m_X11_notes N σ = some x ∧ m_X11_draws (nI t) (x.1 79 3) x = some τ ∧ RR (dsU d (drawn (dT d) (tR (dT d)) (dN d) t) (pushU (dU d) (dN d))) τ ∧ keepC σ τ := by
  have hw := ok.1
  have hy := ok.2.1.1
  obtain ⟨x, x1, x2, x3, x5, x4⟩ := r_notesU hN ok h
  obtain ⟨⟨a1, a2, a3⟩, h2, h3, h4⟩ := h
  have x79 : x.1 79 = σ.1 79 := x3 79 (by omega) (by omega)
  have x81 : x.1 81 = σ.1 81 := x3 81 (by omega) (by omega)
  obtain ⟨τ, t1, t2, t3, t4⟩ := r_draws (σ := x) (t := t) (R := tR (dT d)) hw ok.2.1.o (by omega) (by rw [x79]; exact a1) (by rw [x81]; exact a2) ht hw.2.2.2.2.1
  refine ⟨x, τ, x1, ?_, ⟨⟨?_, t2, ?_⟩, ?_, ?_, ?_⟩, fun c hc => ⟨by rw [t3 c (by omega), x3 c (by omega) (by omega)], by rw [t4, x4]⟩⟩
  · rw [x79, a1.2.2.2.1]; exact t1
  · rw [t3 79 (by omega), x79]; exact a1
  · rw [t3 77 (by omega), x5 8 (by omega)]; exact a3
  · exact RRu_k x2 rfl rfl (by rw [t3 77 (by omega)]) (t3 82 (by omega))
  · exact RRk_k h3 rfl rfl (by rw [t3 92 (by omega), x3 92 (by omega) (by omega)])
  · unfold RRs at *
    rw [t3 77 (by omega), t3 89 (by omega), t3 90 (by omega), t3 91 (by omega), t3 80 (by omega), x5 17 (by omega), x5 19 (by omega), x5 21 (by omega), x5 3 (by omega), x5 6 (by omega), x3 89 (by omega) (by omega), x3 90 (by omega) (by omega), x3 91 (by omega) (by omega), x3 80 (by omega) (by omega)]
    exact h4
theorem drawn_year (w : Tw) (R : Nat) (v : Nw) (t : Nat) : nY (drawn w R v t) ≤ nY v + 1 := by
  show nY v + (if ends w R v t then 1 else 0) ≤ _
  split <;> omega
theorem dsU_ok {d : Dt} {t : Nat} (ok : OK d) (ht : t < tK (dT d)) (hy : nY (dN d) < 90200) : OK (dsU d (drawn (dT d) (tR (dT d)) (dN d) t) (pushU (dU d) (dN d))) := by
  obtain ⟨o1, o2, o3, o4, o5⟩ := ok
  refine ⟨o1, ⟨?_, drawn_ok o1 o2.o ht⟩, ⟨o3.1, fun hr => ?_⟩, ⟨?_, pushU_ok o4.2 o2⟩, o5⟩
  · have := drawn_year (dT d) (tR (dT d)) (dN d) t
    show nY (drawn (dT d) (tR (dT d)) (dN d) t) ≤ 90200
    omega
  · have hr' : tR (dT d) = 1 := hr
    obtain ⟨f1, f2, f3⟩ := o3.2 hr'
    refine ⟨?_, fun v hv => ?_, f3⟩
    · show (if ends (dT d) (tR (dT d)) (dN d) t then 2 ^ tK (dT d) - 1 else leftS (tR (dT d)) (nS (dN d)) t) = 2 ^ tK (dT d) - 1
      split
      · rfl
      · unfold leftS; rw [if_pos hr', f1]
    · have hv' : v ∈ pushU (dU d) (dN d) := hv
      unfold pushU at hv'
      rcases List.mem_append.mp hv' with q | q
      · by_cases e : (dU d).length = 30
        · rw [if_pos e] at q; exact f2 v (List.mem_of_mem_drop q)
        · rw [if_neg e] at q; exact f2 v q
      · rw [List.mem_singleton.mp q]; exact f1
  · show (pushU (dU d) (dN d)).length ≤ 30
    rw [pushU_len o4.1]
    split <;> omega
theorem who_drawn (w : Tw) (R : Nat) (v : Nw) (t s : Nat) : who (drawn w R v t) s = who v s := rfl
theorem c_holds {σ : g_St} {S t : Nat} (hS : S < 256) (ht : t < 8) : m_X10_holds (nI S) (nI t) σ = some (if bt S t then 1 else 0, σ) := by
  unfold m_X10_holds
  by_cases h : bt S t = true
  · rw [bit1 hS ht h, if_neg n10, if_pos h]
  · rw [bit0 hS ht h, if_pos rfl, if_neg h]
set_option maxHeartbeats 1000000 in
theorem sp_draw (N : Nat) (hN : 1170 < N) (x : Int32) : Sp (m_X10_draw x) (m_X11_draw N x) := by
  intro d ok
  have hP6 : tP (dT d) ≤ 6 := ok.1.1
  have hK8 : tK (dT d) ≤ 8 := ok.1.2.1
  have hS : nS (dN d) < 256 := Nat.lt_of_lt_of_le ok.2.1.2.2.1 (pow8 hK8)
  have hy := ok.2.1.1
  rcases i_cases x (tK (dT d)) (by omega) with ⟨t, ht, rfl⟩ | hx
  · have hin : g_in (nI t) (tK (dT d)) := a_in ht (by omega)
    have cpre : ∀ σ, CC d σ → m_X10_draw (nI t) σ = (if bt (nS (dN d)) t = true then (if nY (dN d) ≤ 90000 then ((m_X10_drawTicket (nI t) σ).bind fun q6 => some (q6.1, q6.2)) else some (-1000000004, σ)) else some (-1000000003, σ)) := fun σ h => by
      unfold m_X10_draw
      rw [c_isT (nI t) h.1.1.2.1 (by omega), Option.bind_some]
      dsimp only
      rw [if_pos hin, if_neg n10, h.1.2.1.2.2.1, c_holds hS (by omega), Option.bind_some]
      dsimp only
      by_cases hb : bt (nS (dN d)) t = true
      · rw [if_pos hb, if_pos hb, if_neg n10, h.1.2.1.1]
        by_cases hyr : nY (dN d) ≤ 90000
        · rw [if_pos hyr, if_pos (show nI (nY (dN d)) ≤ (90000 : Int32) from a_le 90000 hyr (by omega))]
        · rw [if_neg hyr, if_neg (show ¬ nI (nY (dN d)) ≤ (90000 : Int32) from a_nle 90000 (by omega) (by omega))]
      · rw [if_neg hb, if_neg hb, if_pos rfl]
    have rpre : ∀ σ, RR d σ → m_X11_draw N (nI t) σ = (if bt (nS (dN d)) t = true then (if nY (dN d) ≤ 90000 then ((m_X11_notes N σ).bind fun σ5 => ((m_X11_draws (nI t) (σ5.1 79 3) σ5).bind fun σ6 => ((m_X11_who (nI t) σ6).bind fun q7 => some (q7.1, q7.2)))) else some (-1000000004, σ)) else some (-1000000003, σ)) := fun σ h => by
      unfold m_X11_draw
      rw [r_isT (nI t) h.1.1.2.1 (by omega), Option.bind_some]
      dsimp only
      rw [if_pos hin, if_neg n10, h.1.2.1.2.2.1]
      by_cases hb : bt (nS (dN d)) t = true
      · rw [if_pos hb, bit1 hS (by omega) hb, if_neg n10, h.1.2.1.1]
        by_cases hyr : nY (dN d) ≤ 90000
        · rw [if_pos hyr, if_pos (show nI (nY (dN d)) ≤ (90000 : Int32) from a_le 90000 hyr (by omega))]
        · rw [if_neg hyr, if_neg (show ¬ nI (nY (dN d)) ≤ (90000 : Int32) from a_nle 90000 (by omega) (by omega))]
      · rw [if_neg hb, bit0 hS (by omega) hb, if_pos rfl]
    by_cases hb : bt (nS (dN d)) t = true
    · by_cases hyr : nY (dN d) ≤ 90000
      · refine ⟨nI (who (dN d) t), _, dsU_ok ok ht (by omega), fun σ h => ?_, fun σ h => ?_⟩
        · obtain ⟨τ, t1, t2, t3⟩ := c_drawTicket ok h ht
          exact ⟨τ, by rw [cpre σ h, if_pos hb, if_pos hyr, t1, Option.bind_some], t2, t3⟩
        · obtain ⟨y, τ, t0, t1, t2, t3⟩ := r_noteDraw hN ok h ht
          refine ⟨τ, ?_, t2, t3⟩
          rw [rpre σ h, if_pos hb, if_pos hyr, t0, Option.bind_some, t1, Option.bind_some, r_whoO ok.1 (drawn_ok ok.1 ok.2.1.o ht) t2.1.2.1 ht, Option.bind_some]
          rfl
      · exact ⟨-1000000004, d, ok, fun σ h => ⟨σ, by rw [cpre σ h, if_pos hb, if_neg hyr], h, keepR_rf σ⟩, fun σ h => ⟨σ, by rw [rpre σ h, if_pos hb, if_neg hyr], h, keepC_rf σ⟩⟩
    · exact ⟨-1000000003, d, ok, fun σ h => ⟨σ, by rw [cpre σ h, if_neg hb], h, keepR_rf σ⟩, fun σ h => ⟨σ, by rw [rpre σ h, if_neg hb], h, keepC_rf σ⟩⟩
  · have hout : ¬ g_in x (tK (dT d)) := a_out (by omega) hx
    refine ⟨-1000000001, d, ok, fun σ h => ⟨σ, ?_, h, keepR_rf σ⟩, fun σ h => ⟨σ, ?_, h, keepC_rf σ⟩⟩
    · unfold m_X10_draw
      simp only [c_isT x h.1.1.2.1 (by omega), Option.bind_some, if_neg hout, if_true]
    · unfold m_X11_draw
      simp only [r_isT x h.1.1.2.1 (by omega), Option.bind_some, if_neg hout, if_true]
