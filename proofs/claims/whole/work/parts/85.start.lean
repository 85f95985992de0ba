theorem g_nest_tbl : ∀ w ∈ g_nest, w ∈ lw_tbl := by decide +kernel
theorem cw_L_7 : g_Cls lw_tbl RL 7 10 15 [some none, some none, some none, some none, some none, some none, some none, some none, some none, some none, some none, some none, none, none, none] := ⟨RX10, TX10, tyX10, rfl, inX10, tyX10_ok, by decide +kernel, by decide +kernel, by decide +kernel, g_dvX10⟩
theorem cw_L_10 : g_Cls lw_tbl RL 10 11 27 [some none, some none, some none, none, none, none, none, some none, none, none, some none, some none, some none, some none, some none, some none, some none, none, some none, none, some none, none, some none, none, none, none, some none] := ⟨RX11, TX11, tyX11, rfl, inX11, tyX11_ok, by decide +kernel, by decide +kernel, by decide +kernel, g_dvX11⟩
theorem iw_L_9 : Cond.initialized (MethodName.cls yX10_init) ∈ lw_tbl ∧ Cond.methodLink RL 9 yX10_init ∈ lw_tbl ∧ Cond.instanceMethod yX10_init ∈ lw_tbl := ⟨by decide +kernel, by decide +kernel, by decide +kernel⟩
theorem iw_L_12 : Cond.initialized (MethodName.cls yX11_init) ∈ lw_tbl ∧ Cond.methodLink RL 12 yX11_init ∈ lw_tbl ∧ Cond.instanceMethod yX11_init ∈ lw_tbl := ⟨by decide +kernel, by decide +kernel, by decide +kernel⟩
theorem g_law_ag {T : Nat → g_Sh} {s1 s2 : g_Sh} : g_ag L_law 93 (g_upT (va_up (g_upT (va_up T 0 s1) 0 77) 77 s2) 77 93) := by
  intro c hc
  have h9 : c < 93 := by simpa [L_law] using hc
  refine ⟨h9, ?_⟩
  by_cases e : 77 ≤ c
  · unfold g_upT; rw [if_pos ⟨e, h9⟩]
  · have e1 : g_upT (va_up (g_upT (va_up T 0 s1) 0 77) 77 s2) 77 93 c = va_up (g_upT (va_up T 0 s1) 0 77) 77 s2 c := by
      show (if 77 ≤ c ∧ c < 93 then TC c else _) = _
      rw [if_neg (by omega)]
    rw [e1, g_up_n _ _ (by omega)]
    show (if 0 ≤ c ∧ c < 77 then TC c else _) = _
    rw [if_pos (by omega)]
set_option maxHeartbeats 4000000 in
set_option maxRecDepth 100000 in
theorem w_m_law_0 {M : g_M} {E : g_E} {T : Nat → g_Sh} {Qf : Unit → State → Prop} {b L : Nat} {xs : Nat → Int32} (C : g_C (M, E, (0, 0, 0, T), 4, Qf) code RL lw_tbl room_1 4) (q : ∀ (c s n : Nat) (T : Nat → g_Sh), c ≤ 600000 → s ≤ 7302250 → g_qLaw (M, E, (c, s, n, T), 4, Qf) b) (S : ∀ Y : g_Y, g_Scr (M, E, Y, 4, Qf) b L xs) (hAO : g_AO M.2.2.2.2.1) (N : Nat) : G (M, E, (0, 0, 0, T), 4, Qf) 0 [(0, .ref b)] [] (fun _ _ => 0, fun _ _ => 0) (m_law xs L N) := by
  unfold m_law
  refine G_new (g_C_at C _ _ _ _ rfl) cw_L_7 rfl dL_law_0 ?_
  refine G_lts (fun σ1 => ?_)
  refine G_dup (g_C_at C _ _ _ _ rfl) dL_law_3 rfl ?_
  refine G_callN (g_C_at C _ _ _ _ rfl) (nargs := 0) (As := []) (rest := [.ref (E.2.1 + 0)]) (c := 0) (mc := 76) (ms := 2165) (n1 := 77) gl_X10_init rfl iw_L_9 rfl (by decide +kernel) rfl rfl rfl dL_law_4 (Px := g_AO) (fun U hWm => g_AO_warm hWm hAO) (fun U g mk a h => g_AO_same rfl h) (fun a ha => k_m_X10_init_0 M.2.1 E _ g_has_new N σ1 a ha) (fun σ2 => ?_)
  refine G_astore_n (g_C_at C _ _ _ _ rfl) dL_law_7 rfl rfl (lv' := [(1, .ref (E.2.1 + 0)), (0, .ref b)]) rfl ?_
  refine G_new (g_C_at C _ _ _ _ rfl) cw_L_10 rfl dL_law_8 ?_
  refine G_lts (fun σ3 => ?_)
  refine G_dup (g_C_at C _ _ _ _ rfl) dL_law_11 rfl ?_
  refine G_callN (g_C_at C _ _ _ _ rfl) (nargs := 0) (As := []) (rest := [.ref (E.2.1 + 77)]) (c := 77) (mc := 15) (ms := 2238) (n1 := 93) gl_X11_init rfl iw_L_12 rfl (by decide +kernel) rfl rfl rfl dL_law_12 (Px := fun _ => True) (fun _ _ => trivial) (fun _ _ _ _ _ => trivial) (fun a ha => k_m_X11_init_77 M.2.1 E _ g_has_new N σ3 a ha) (fun σ4 => ?_)
  refine G_astore_n (g_C_at C _ _ _ _ rfl) dL_law_15 rfl rfl (lv' := [(2, .ref (E.2.1 + 77)), (1, .ref (E.2.1 + 0)), (0, .ref b)]) rfl ?_
  refine G_iconst (g_C_at C _ _ _ _ rfl) dL_law_16 (v := 0) (by decide +kernel) ?_
  refine G_istore_n (g_C_at C _ _ _ _ rfl) dL_law_17 rfl rfl (lv' := [(3, .int (0 : Int32)), (2, .ref (E.2.1 + 77)), (1, .ref (E.2.1 + 0)), (0, .ref b)]) rfl ?_
  exact G_sub (w_m_law_18 (g_C_at C _ _ _ _ rfl) (q _ _ _ _ (Nat.le_of_ble_eq_true rfl) (Nat.le_of_ble_eq_true rfl)) g_law_ag (S _) N N (0 : Int32) σ4) [3, 2, 1, 0] rfl
set_option maxHeartbeats 4000000 in
set_option maxRecDepth 100000 in
/-- the walk of the law, out of its function's answer -/
theorem whole_open {p : Program} {e : Env} {s : State} {m : MethodId} {below : List Frame} {meth : Method} {c : Code} (l : Launch) {b L N : Nat} {xs : Nat → Int32} (hN : m_law xs L N = some ()) (C0 : lw_At p s m meth c b L xs) : W p l e room_1 s m #[Value.ref b] below meth c s.heap [] 0 0 (lw_Z below #[Value.ref b] s) (entryFrame m ([Value.ref b] : List Value).toArray 4) := by
  obtain ⟨hx, hb, hr, hml, hown, hts, hX, hbl, hlocks, hgv⟩ := C0
  obtain ⟨c0, i0, hKn0⟩ := u_known (C := RX0) (T := TX0) (N := 2) (n := 2) hts inX0 (hts (.instantiable RX0 2) (by decide +kernel))
  obtain ⟨c1, i1, hKn1⟩ := u_known (C := RX1) (T := TX1) (N := 8) (n := 8) hts inX1 (hts (.instantiable RX1 8) (by decide +kernel))
  obtain ⟨c2, i2, hKn2⟩ := u_known (C := RX2) (T := TX2) (N := 6) (n := 6) hts inX2 (hts (.instantiable RX2 6) (by decide +kernel))
  obtain ⟨c3, i3, hKn3⟩ := u_known (C := RX3) (T := TX3) (N := 3) (n := 3) hts inX3 (hts (.instantiable RX3 3) (by decide +kernel))
  obtain ⟨c4, i4, hKn4⟩ := u_known (C := RX4) (T := TX4) (N := 8) (n := 8) hts inX4 (hts (.instantiable RX4 8) (by decide +kernel))
  obtain ⟨c5, i5, hKn5⟩ := u_known (C := RX5) (T := TX5) (N := 3) (n := 3) hts inX5 (hts (.instantiable RX5 3) (by decide +kernel))
  obtain ⟨c6, i6, hKn6⟩ := u_known (C := RX6) (T := TX6) (N := 12) (n := 12) hts inX6 (hts (.instantiable RX6 12) (by decide +kernel))
  obtain ⟨c7, i7, hKn7⟩ := u_known (C := RX7) (T := TX7) (N := 6) (n := 6) hts inX7 (hts (.instantiable RX7 6) (by decide +kernel))
  obtain ⟨c8, i8, hKn8⟩ := u_known (C := RX8) (T := TX8) (N := 2) (n := 2) hts inX8 (hts (.instantiable RX8 2) (by decide +kernel))
  obtain ⟨c9, i9, hKn9⟩ := u_known (C := RX9) (T := TX9) (N := 4) (n := 4) hts inX9 (hts (.instantiable RX9 4) (by decide +kernel))
  obtain ⟨c10, i10, hKn10⟩ := u_known (C := RX10) (T := TX10) (N := 15) (n := 15) hts inX10 (hts (.instantiable RX10 15) (by decide +kernel))
  obtain ⟨c11, i11, hKn11⟩ := u_known (C := RX11) (T := TX11) (N := 27) (n := 27) hts inX11 (hts (.instantiable RX11 27) (by decide +kernel))
  obtain ⟨cI, kI, compI, fI, hkI, hkindI⟩ := Cond.arrayClass_spec (hts (.arrayClass .int) (by decide +kernel))
  obtain ⟨cJ, kJ, compJ, fJ, hkJ, hkindJ⟩ := Cond.arrayClass_spec (hts (.arrayClass .long) (by decide +kernel))
  have hAO : g_AO s := Jvm.Stand.arrayOver_alikeB (Vm.Alike.refl _) (hts (.arrayOver (.array .int)) (by decide +kernel))
  obtain ⟨compR, cR, kR, hcompR, hidxR, hkR, hkindR, fR⟩ := Jvm.Stand.arrayOver_specB hAO
  obtain ⟨dC, dI, hKc⟩ : ∃ (dC : Nat → ClassId) (dI : Nat → Nat → Nat), ∀ (k : Nat) (q : vw_C), vwCl[k]? = some q → u_Kn s q.1 q.2.1 q.2.2 (dC k) (dI k) := by
    refine ⟨fun k => if k = 0 then c0 else if k = 1 then c1 else if k = 2 then c2 else if k = 3 then c3 else if k = 4 then c4 else if k = 5 then c5 else if k = 6 then c6 else if k = 7 then c7 else if k = 8 then c8 else if k = 9 then c9 else if k = 10 then c10 else c11, fun k => if k = 0 then i0 else if k = 1 then i1 else if k = 2 then i2 else if k = 3 then i3 else if k = 4 then i4 else if k = 5 then i5 else if k = 6 then i6 else if k = 7 then i7 else if k = 8 then i8 else if k = 9 then i9 else if k = 10 then i10 else i11, ?_⟩
    intro k q hq
    match k, hq with
    | 0, hq => cases hq; exact hKn0
    | 1, hq => cases hq; exact hKn1
    | 2, hq => cases hq; exact hKn2
    | 3, hq => cases hq; exact hKn3
    | 4, hq => cases hq; exact hKn4
    | 5, hq => cases hq; exact hKn5
    | 6, hq => cases hq; exact hKn6
    | 7, hq => cases hq; exact hKn7
    | 8, hq => cases hq; exact hKn8
    | 9, hq => cases hq; exact hKn9
    | 10, hq => cases hq; exact hKn10
    | 11, hq => cases hq; exact hKn11
    | k + 12, hq => simp [vwCl] at hq
  have hK : g_K ((dC, dI), s.heap.size, cI, cJ, cR) s := by
    refine ⟨⟨hKc, fun k q hq => ?_⟩, fun w hw => va_Nw.of (g_nest_tab w hw) (hts w (g_nest_tbl w hw))⟩
    match k, hq with
    | 0, hq => cases hq; exact ⟨fun n z => ⟨fun k h => (by cases h), kI, hkI, compI, hkindI⟩, fI⟩
    | 1, hq => cases hq; exact ⟨fun n z => ⟨fun k h => (by cases h), kJ, hkJ, compJ, hkindJ⟩, fJ⟩
    | 2, hq => cases hq; exact ⟨fun n z => ⟨fun k h => (by cases h), kR, hkR, compR, hkindR⟩, fR⟩
    | k + 3, hq => simp at hq
  have h := w_m_law_0 (M := (p, l, e, room_1, s, m, #[Value.ref b], below, meth, c)) (E := ((dC, dI), s.heap.size, cI, cJ, cR)) (T := fun _ => .inr (.inl 0)) (Qf := fun _ => lw_Z below #[Value.ref b] s) (b := b) (L := L) (xs := xs) ⟨hx, hb, hml, hown, hts, hK, Nat.le_refl _, rfl, Nat.zero_le _, Nat.zero_le _, rfl⟩ (fun c s n T h1 h2 => ⟨hr, hlocks, rfl, rfl, rfl, h1, h2, rfl⟩) (fun Y => ⟨hX, hbl, hbl⟩) hAO N () hN s.heap [] _ ⟨⟨rfl, fun k q hq => absurd (g_wl_get hq).1 (Nat.not_lt_zero _)⟩, va_S.rf⟩ (lv_entry [Value.ref b] (n := 4) (Nat.le_of_ble_eq_true rfl))
  rw [lg_entry_eq]
  exact h
