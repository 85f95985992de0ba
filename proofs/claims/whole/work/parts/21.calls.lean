/-! contracts: a method's answer and the state behind it, as a value; calls; returns -/
abbrev g_A (E : g_E) : Nat → Prop := fun q => E.2.1 ≤ q
def g_Pc (E : g_E) (n : Nat) (T : Nat → g_Sh) (As : List Value) (σ : g_St) : Array Value → State → Prop := va_Pc As (fun U => g_Wd E n T σ U.heap ∧ g_K E U)
def g_Qi (E : g_E) (n : Nat) (T : Nat → g_Sh) (a : Int32 × g_St) : Array Value → State → Outcome → State → Prop := va_Qi (fun r u => (r, u) = a) (fun u t => g_Wd E n T u t.heap ∧ g_K E t) (g_A E)
def g_Ql (E : g_E) (n : Nat) (T : Nat → g_Sh) (a : Int64 × g_St) : Array Value → State → Outcome → State → Prop := va_Ql (fun r u => (r, u) = a) (fun u t => g_Wd E n T u t.heap ∧ g_K E t) (g_A E)
def g_Qv (E : g_E) (n : Nat) (T : Nat → g_Sh) (a : g_St) : Array Value → State → Outcome → State → Prop := va_Qv (fun u => u = a) (fun u t => g_Wd E n T u t.heap ∧ g_K E t) (g_A E)
abbrev g_fit (rc rm : Room) (maxL : Nat) : Bool := Nat.beq rc.cells 0 && Nat.beq rc.slots 0 && Nat.ble (rc.frames + 1) rm.frames && Nat.ble (8 + (maxL + 11) + rc.locals) rm.locals
theorem g_fit_ok {rc rm : Room} {maxL : Nat} (h : g_fit rc rm maxL = true) : rc.cells = 0 ∧ rc.slots = 0 ∧ rc.frames + 1 ≤ rm.frames ∧ 8 + (maxL + 11) + rc.locals ≤ rm.locals := by
  simp only [g_fit, Bool.and_eq_true] at h
  obtain ⟨⟨⟨h1, h2⟩, h3⟩, h4⟩ := h
  exact ⟨Nat.eq_of_beq_eq_true h1, Nat.eq_of_beq_eq_true h2, Nat.le_of_ble_eq_true h3, Nat.le_of_ble_eq_true h4⟩
theorem g_fit_mk {rc rm : Room} {maxL : Nat} (h1 : rc.cells = 0) (h2 : rc.slots = 0) (h3 : rc.frames + 1 ≤ rm.frames) (h4 : 8 + (maxL + 11) + rc.locals ≤ rm.locals) : g_fit rc rm maxL = true := by
  simp only [g_fit, Bool.and_eq_true]
  exact ⟨⟨⟨by rw [h1]; rfl, by rw [h2]; rfl⟩, Nat.ble_eq_true_of_le h3⟩, Nat.ble_eq_true_of_le h4⟩
theorem g_blind (E : g_E) (n : Nat) (T : Nat → g_Sh) (As : List Value) (σ : g_St) : FrameBlind (g_Pc E n T As σ) := fun a U g mk q => by
  obtain ⟨q0, q1, q2⟩ := q
  exact ⟨q0, q1, g_K_same (s := U) (U := U.calling g mk a) rfl q2⟩
section GC
variable {α : Type} {X : g_X α} {cc : ByteArray} {own : String} {Ts : List Cond} {rm : Room} {nL : Nat} {pc : Nat} {lv lv' : List (Nat × Value)} {st : List Value} {σ : g_St} {o o1 o2 : Option α}
def g_Run (X : g_X α) (σ : g_St) (pc : Nat) (st0 rest : List Value) (Q : Array Value → State → Outcome → State → Prop) : Prop :=
  ∀ (H : Heap) (locs : List Loc) (ls : Array Slot), g_WS X σ H locs → ls.size = X.2.2.2.1 → ∃ arr, va_Run X.1.1 X.1.2.1 X.1.2.2.1 X.1.2.2.2.1 X.1.2.2.2.2.1 X.1.2.2.2.2.2.1 X.1.2.2.2.2.2.2.1 X.1.2.2.2.2.2.2.2.1 X.1.2.2.2.2.2.2.2.2.1 X.1.2.2.2.2.2.2.2.2.2 H locs X.2.2.1.1 X.2.2.1.2.1 0 0 (F0 X.1.2.2.2.2.2.1 pc ls st0) rest (Q arr) (g_A X.2.1)
theorem g_runV (C : g_C X cc own Ts rm nL) {y : MethodName} {bytes : ByteArray} {maxL nargs index ci c : Nat} {ret : Option FieldType} {ws ws' : List Cond} {rc : Room} {C' : String} {ds : List (Option (Option Nat))} {Q : Array Value → State → Outcome → State → Prop} {As rest : List Value} (hG : GoodIn Ts (wsV own index C' y ws)) (hw : ws = .code y bytes maxL ret :: ws') (hd : y.cls = C' ∧ y.cls ≠ "java/lang/invoke/MethodHandle" ∧ y.cls ≠ "java/lang/invoke/VarHandle" ∧ (parseMethodDescriptor y.desc).map (fun d => d.parameters.length) = some nargs) (hfit : g_fit rc rm maxL = true)
    (hT : g_has (g_n X) (g_T X) c (.inl (ci, ds))) {q : vw_C} (hc : vwCl[ci]? = some q) (hq : q.1 = C') (hn : As.length = nargs) (hcat : Nat.ble (rest.map fun v => v.category).sum 8 = true) (d : decode cc pc = .ok (.invokevirtual index, 3))
    (hM : Met X.1.2.1 y ws rc (g_Pc X.2.1 (g_n X) (g_T X) (.ref (g_b X + c) :: As) σ) Q 0 0 (g_A X.2.1)) : g_Run X σ pc (As.reverse ++ .ref (g_b X + c) :: rest) rest Q := by
  intro H locs ls hW hs
  subst hq
  obtain ⟨f1, f2, f3, f4⟩ := g_fit_ok hfit
  obtain ⟨hx, hb, hml, hown, hts, hK, hbs, hR, hcl, hsl, hnL⟩ := C
  exact ⟨_, va_runV (As := As) (rest := rest) ⟨hx, hb, hml, hown, hts⟩ hM (cwV nargs hts hG hw f1 f2 hd (by rw [hR]; exact ⟨f3, f4⟩)) ⟨g_blind _ _ _ _ _, va_recv hK.1 hW.1.2 hc (g_wl_at hT), fun U hU hWm => ⟨rfl, by rw [hU]; exact hW.1, g_K_warm hWm hK⟩⟩ rfl hn hs rfl (lv_room (Nat.le_of_ble_eq_true hcat)) d (by rw [hR]; exact ⟨hcl, hsl⟩)⟩
theorem g_runS (C : g_C X cc own Ts rm nL) {y : MethodName} {bytes : ByteArray} {maxL nargs index : Nat} {ret : Option FieldType} {ws ws' : List Cond} {rc : Room} {Q : Array Value → State → Outcome → State → Prop} {As rest : List Value} (hG : GoodIn Ts (va_wsS own index y ws)) (hw : ws = .code y bytes maxL ret :: ws') (hd : y.cls ≠ "java/lang/invoke/MethodHandle" ∧ y.cls ≠ "java/lang/invoke/VarHandle" ∧ (parseMethodDescriptor y.desc).map (fun d => d.parameters.length) = some nargs) (hfit : g_fit rc rm maxL = true)
    (hn : As.length = nargs) (hcat : Nat.ble (rest.map fun v => v.category).sum 8 = true) (d : decode cc pc = .ok (.invokestatic index, 3))
    (hM : Met X.1.2.1 y ws rc (g_Pc X.2.1 (g_n X) (g_T X) As σ) Q 0 0 (g_A X.2.1)) : g_Run X σ pc (As.reverse ++ rest) rest Q := by
  intro H locs ls hW hs
  obtain ⟨f1, f2, f3, f4⟩ := g_fit_ok hfit
  obtain ⟨hx, hb, hml, hown, hts, hK, hbs, hR, hcl, hsl, hnL⟩ := C
  exact ⟨_, va_runS (As := As) (rest := rest) ⟨hx, hb, hml, hown, hts⟩ hM (va_cwS nargs hts hG hw f1 f2 hd (by rw [hR]; exact ⟨f3, f4⟩)) ⟨g_blind _ _ _ _ _, fun U hU hWm => ⟨rfl, by rw [hU]; exact hW.1, g_K_warm hWm hK⟩⟩ rfl hn hs rfl (lv_room (Nat.le_of_ble_eq_true hcat)) d (by rw [hR]; exact ⟨hcl, hsl⟩)⟩
theorem g_runSN (C : g_C X cc own Ts rm nL) {y : MethodName} {bytes : ByteArray} {maxL nargs index : Nat} {ret : Option FieldType} {ws ws' : List Cond} {rc : Room} {host : String} {Q : Array Value → State → Outcome → State → Prop} {As rest : List Value} (hG : GoodIn Ts ws) (hw : ws = .code y bytes maxL ret :: ws') (hnw : Cond.methodLinkNest own index y host ∈ g_nest) (hsi : Cond.static y ∈ Ts ∧ Cond.initialized y.cls ∈ Ts) (hd : y.cls ≠ "java/lang/invoke/MethodHandle" ∧ y.cls ≠ "java/lang/invoke/VarHandle" ∧ (parseMethodDescriptor y.desc).map (fun d => d.parameters.length) = some nargs) (hfit : g_fit rc rm maxL = true)
    (hn : As.length = nargs) (hcat : Nat.ble (rest.map fun v => v.category).sum 8 = true) (d : decode cc pc = .ok (.invokestatic index, 3))
    (hM : Met X.1.2.1 y ws rc (g_Pc X.2.1 (g_n X) (g_T X) As σ) Q 0 0 (g_A X.2.1)) : g_Run X σ pc (As.reverse ++ rest) rest Q := by
  intro H locs ls hW hs
  obtain ⟨f1, f2, f3, f4⟩ := g_fit_ok hfit
  obtain ⟨hx, hb, hml, hown, hts, hK, hbs, hR, hcl, hsl, hnL⟩ := C
  exact ⟨_, va_runSN (As := As) (rest := rest) ⟨hx, hb, hml, hown, hts⟩ hM ⟨va_cnB nargs hts hG hw f1 f2 (hK.2 _ hnw) (hts _ hsi.2) hd (by rw [hR]; exact ⟨f3, f4⟩), hts _ hsi.1, trivial⟩ ⟨g_blind _ _ _ _ _, fun U hU hWm => ⟨rfl, by rw [hU]; exact hW.1, g_K_warm hWm hK⟩⟩ rfl hn hs rfl (lv_room (Nat.le_of_ble_eq_true hcat)) d (by rw [hR]; exact ⟨hcl, hsl⟩)⟩
theorem G_callI {oc : Option (Int32 × g_St)} {k : Int32 × g_St → Option α} {st0 rest : List Value} (hr : ∀ a, oc = some a → g_Run X σ pc st0 rest (g_Qi X.2.1 (g_n X) (g_T X) a)) (h : ∀ a, G X (pc + 3) lv (.int a.1 :: rest) a.2 (k a)) : G X pc lv st0 σ (oc.bind k) := by
  intro a' ha' H locs ls hW hl
  obtain ⟨a, ha, hk⟩ := Option.bind_eq_some_iff.mp ha'
  obtain ⟨arr, hr⟩ := hr a ha H locs ls hW hl.1
  refine va_calli hr hW.2 (fun q _ h => h) (fun q h => h) (fun r u t H1 locs1 ht hvm hp hB hz hk1 hS => ?_)
  subst hp
  exact h (r, u) a' hk H1 locs1 ls ⟨by rw [← ht]; exact hB.1, hS⟩ hl
theorem G_callL {oc : Option (Int64 × g_St)} {k : Int64 × g_St → Option α} {st0 rest : List Value} (hr : ∀ a, oc = some a → g_Run X σ pc st0 rest (g_Ql X.2.1 (g_n X) (g_T X) a)) (h : ∀ a, G X (pc + 3) lv (.long a.1 :: rest) a.2 (k a)) : G X pc lv st0 σ (oc.bind k) := by
  intro a' ha' H locs ls hW hl
  obtain ⟨a, ha, hk⟩ := Option.bind_eq_some_iff.mp ha'
  obtain ⟨arr, hr⟩ := hr a ha H locs ls hW hl.1
  refine va_calll hr hW.2 (fun q _ h => h) (fun q h => h) (fun r u t H1 locs1 ht hvm hp hB hz hk1 hS => ?_)
  subst hp
  exact h (r, u) a' hk H1 locs1 ls ⟨by rw [← ht]; exact hB.1, hS⟩ hl
theorem G_callV {oc : Option g_St} {k : g_St → Option α} {st0 rest : List Value} (hr : ∀ a, oc = some a → g_Run X σ pc st0 rest (g_Qv X.2.1 (g_n X) (g_T X) a)) (h : ∀ a, G X (pc + 3) lv rest a (k a)) : G X pc lv st0 σ (oc.bind k) := by
  intro a' ha' H locs ls hW hl
  obtain ⟨a, ha, hk⟩ := Option.bind_eq_some_iff.mp ha'
  obtain ⟨arr, hr⟩ := hr a ha H locs ls hW hl.1
  refine va_callv hr hW.2 (fun q _ h => h) (fun q h => h) (fun u t H1 locs1 ht hvm hp hB hz hk1 hS => ?_)
  subst hp
  exact h u a' hk H1 locs1 ls ⟨by rw [← ht]; exact hB.1, hS⟩ hl
def g_mw (Ts : List Cond) (own : String) (index : Nat) (nm : MethodName) (cd : ByteArray) (k : Nat) : Prop := Cond.methodLink own index nm ∈ Ts ∧ Cond.static nm ∈ Ts ∧ Cond.initialized "java/lang/Math" ∈ Ts ∧ Cond.code nm cd k (some .int) ∈ Ts
abbrev g_mfit (rm : Room) (st : List Value) : Bool := Nat.ble 1 rm.frames && Nat.ble ((st.map fun v => v.category).sum + 13) rm.locals
theorem g_mfit_ok {rm : Room} {st : List Value} (h : g_mfit rm st = true) : 1 ≤ rm.frames ∧ (st.map fun v => v.category).sum + 13 ≤ rm.locals := by
  simp only [g_mfit, Bool.and_eq_true] at h
  exact ⟨Nat.le_of_ble_eq_true h.1, Nat.le_of_ble_eq_true h.2⟩

theorem G_mmin (C : g_C X cc own Ts rm nL) {index : Nat} {x y : Int32} (w : g_mw Ts own index Lib.Math.min.name Lib.Math.min.code 2) (hfit : g_mfit rm st = true) (d : decode cc pc = .ok (.invokestatic index, 3)) (h : G X (pc + 3) lv (.int (if y < x then y else x) :: st) σ o) : G X pc lv (.int y :: .int x :: st) σ o := by
  intro a ha H locs ls hW hl
  obtain ⟨f1, f2⟩ := g_mfit_ok hfit
  obtain ⟨hx, hb, hml, hown, hts, hK, hbs, hR, hcl, hsl, hnL⟩ := C
  exact va_mmin hx hb (hml.trans hl.1.symm) hown (hts _ w.1) (hts _ w.2.1) (hts _ w.2.2.1) (hts _ w.2.2.2) (by rw [hR]; exact f1) (by rw [hR]; exact f2) (by rw [hR]; exact hcl) (by rw [hR]; exact hsl) d (h a ha H locs ls hW hl)
theorem G_mmax (C : g_C X cc own Ts rm nL) {index : Nat} {x y : Int32} (w : g_mw Ts own index Lib.Math.max.name Lib.Math.max.code 2) (hfit : g_mfit rm st = true) (d : decode cc pc = .ok (.invokestatic index, 3)) (h : G X (pc + 3) lv (.int (if x < y then y else x) :: st) σ o) : G X pc lv (.int y :: .int x :: st) σ o := by
  intro a ha H locs ls hW hl
  obtain ⟨f1, f2⟩ := g_mfit_ok hfit
  obtain ⟨hx, hb, hml, hown, hts, hK, hbs, hR, hcl, hsl, hnL⟩ := C
  exact va_mmax hx hb (hml.trans hl.1.symm) hown (hts _ w.1) (hts _ w.2.1) (hts _ w.2.2.1) (hts _ w.2.2.2) (by rw [hR]; exact f1) (by rw [hR]; exact f2) (by rw [hR]; exact hcl) (by rw [hR]; exact hsl) d (h a ha H locs ls hW hl)
theorem G_mabs (C : g_C X cc own Ts rm nL) {index : Nat} {x : Int32} (w : g_mw Ts own index Lib.Math.abs.name Lib.Math.abs.code 1) (hfit : g_mfit rm st = true) (d : decode cc pc = .ok (.invokestatic index, 3)) (h : G X (pc + 3) lv (.int (if 0 ≤ x then x else 0 - x) :: st) σ o) : G X pc lv (.int x :: st) σ o := by
  intro a ha H locs ls hW hl
  obtain ⟨f1, f2⟩ := g_mfit_ok hfit
  obtain ⟨hx, hb, hml, hown, hts, hK, hbs, hR, hcl, hsl, hnL⟩ := C
  exact va_mabs hx hb (hml.trans hl.1.symm) hown (hts _ w.1) (hts _ w.2.1) (hts _ w.2.2.1) (hts _ w.2.2.2) (by rw [hR]; exact f1) (by rw [hR]; exact f2) (by rw [hR]; exact hcl) (by rw [hR]; exact hsl) d (h a ha H locs ls hW hl)
def g_cw (Ts : List Cond) (own : String) (index : Nat) : Prop := Cond.methodLink own index arraycopyName ∈ Ts ∧ Cond.native arraycopyName ∈ Ts ∧ Cond.static arraycopyName ∈ Ts ∧ Cond.initialized "java/lang/System" ∈ Ts
abbrev g_cfit (rm : Room) (st : List Value) : Bool := Nat.ble 1 rm.frames && Nat.ble ((st.map fun v => v.category).sum + (nativeFrameWords "java/lang/System" "arraycopy" 5 + 11)) rm.locals
theorem G_copy (C : g_C X cc own Ts rm nL) {index c0 c1 n0 n1 : Nat} {sp dp n : Int32} (w : g_cw Ts own index) (hfit : g_cfit rm st = true) (hT0 : g_has (g_n X) (g_T X) c0 (.inr (.inl n0))) (hT1 : g_has (g_n X) (g_T X) c1 (.inr (.inl n1))) (hb : (decide (0 ≤ sp) && decide (0 ≤ dp) && decide (0 ≤ n) && Nat.ble (sp.toNatClampNeg + n.toNatClampNeg) n0 && Nat.ble (dp.toNatClampNeg + n.toNatClampNeg) n1) = true) (d : decode cc pc = .ok (.invokestatic index, 3))
    (h : G X (pc + 3) lv st (g_sA σ c1 (va_cpy (σ.1 c0) (σ.1 c1) sp.toNatClampNeg dp.toNatClampNeg n.toNatClampNeg)) o) : G X pc lv (.int n :: .int dp :: .ref (g_b X + c1) :: .int sp :: .ref (g_b X + c0) :: st) σ o := by
  intro a ha H locs ls hW hl T hT Xs
  simp only [Bool.and_eq_true, decide_eq_true_eq] at hb
  obtain ⟨⟨⟨⟨b1, b2⟩, b3⟩, b4⟩, b5⟩ := hb
  have b4 := Nat.le_of_ble_eq_true b4
  have b5 := Nat.le_of_ble_eq_true b5
  simp only [g_cfit, Bool.and_eq_true] at hfit
  have f1 := Nat.le_of_ble_eq_true hfit.1
  have f2 := Nat.le_of_ble_eq_true hfit.2
  obtain ⟨hx, hcb, hml, hown, hts, hK, hbs, hR, hcl, hsl, hnL⟩ := C
  have hD := g_D X.2.1 (g_n X) (g_T X) σ
  have ha0 := g_wl_at (E := X.2.1) (σ := σ) hT0
  have ha1 := g_wl_at (E := X.2.1) (σ := σ) hT1
  have hc0 : H[g_b X + c0]? = some (vp_cell X.2.1.2.2.1 (n0, .inl (σ.1 c0))) := hW.1.2 c0 _ ha0
  have hc1 : H[g_b X + c1]? = some (vp_cell X.2.1.2.2.1 (n1, .inl (σ.1 c1))) := hW.1.2 c1 _ ha1
  have nn : ∀ z : Int32, 0 ≤ z → ¬ z < 0 ∧ z.toInt = (z.toNatClampNeg : Int) := by
    intro z hz
    have hz0 : (0 : Int) ≤ z.toInt := by simpa using Int32.le_iff_toInt_le.mp hz
    exact ⟨Int32.not_lt.mpr hz, by show z.toInt = ((z.toInt.toNat : Nat) : Int); omega⟩
  obtain ⟨-, k0, hk0, cm0, hkk0⟩ := (hK.1.2 0 _ rfl).1 n0 (fun j => .int (σ.1 c0 j))
  obtain ⟨-, k1, hk1, cm1, hkk1⟩ := (hK.1.2 0 _ rfl).1 n1 (fun j => .int (σ.1 c1 j))
  obtain ⟨vm', X', step⟩ := Xs.arraycopy hx hown (hts _ w.1) (hts _ w.2.1) (hts _ w.2.2.1) (hts _ w.2.2.2) (src := g_b X + c0) (dst := g_b X + c1) (cs := vp_cell X.2.1.2.2.1 (n0, .inl (σ.1 c0))) (cd := vp_cell X.2.1.2.2.1 (n1, .inl (σ.1 c1))) (srcPos := sp) (destPos := dp) (n := n) (by rw [hT]; exact hc0) (by rw [hT]; exact hc1)
    (fun _ h => by cases h) (fun _ h => by cases h) (fun h => by cases h) (fun h => by cases h) hk0 hk1 hkk0 hkk1 (by simp [refKind]) (nn sp b1).1 (nn dp b2).1 (nn n b3).1
    (by rw [(nn sp b1).2, (nn n b3).2]; show ¬ _ > ((arrV X.2.1.2.2.1 n0 (fun j => .int (σ.1 c0 j))).slots.size : Int); rw [arrV_size]; omega)
    (by rw [(nn dp b2).2, (nn n b3).2]; show ¬ _ > ((arrV X.2.1.2.2.1 n1 (fun j => .int (σ.1 c1 j))).slots.size : Int); rw [arrV_size]; omega)
    (fun vm₁ _ i hi => by
      have e : (vp_cell X.2.1.2.2.1 (n0, .inl (σ.1 c0))).slots.getD (sp.toNatClampNeg + i) .null = .int (σ.1 c0 (sp.toNatClampNeg + i)) := by
        show (arrV X.2.1.2.2.1 n0 (fun j => .int (σ.1 c0 j))).slots.getD _ _ = _
        rw [Array.getD_eq_getD_getElem?, arrV_read _ _ (by omega)]
        rfl
      refine ⟨?_, ?_⟩
      · rw [e]
        rfl
      · rw [e]
        exact trivial)
    (g := F0 X.1.2.2.2.2.2.1 pc ls (.int n :: .int dp :: .ref (g_b X + c1) :: .int sp :: .ref (g_b X + c0) :: st)) rfl (by rw [hml]; exact hl.1) (rest := st) rfl (by rw [hcb]; exact d) (by rw [hR]; exact f1) (by rw [hR]; show 2 * 0 + _ + _ ≤ _; omega)
  have e1 : copied (vp_cell X.2.1.2.2.1 (n0, .inl (σ.1 c0))) (vp_cell X.2.1.2.2.1 (n1, .inl (σ.1 c1))) sp dp n = vp_cell X.2.1.2.2.1 (n1, .inl (va_cpy (σ.1 c0) (σ.1 c1) sp.toNatClampNeg dp.toNatClampNeg n.toNatClampNeg)) := va_copied (fun z => .int z) X.2.1.2.2.1 X.2.1.2.2.1 (σ.1 c0) (σ.1 c1) b4
  rw [e1] at X' step
  have hlt : g_b X + c1 < H.size := (Array.getElem?_eq_some_iff.mp hc1).1
  have oq : ∀ (z : Cell) (q : Nat), q ≠ g_b X + c1 → (H.setIfInBounds (g_b X + c1) z)[q]? = H[q]? := fun z q hq => by simp [Array.getElem?_setIfInBounds, Ne.symm hq]
  have hP2 := hW.1.2.set hD ha1 (e := g_ce X.2.1 (.inr (.inl n1)) (va_cpy (σ.1 c0) (σ.1 c1) sp.toNatClampNeg dp.toNatClampNeg n.toNatClampNeg) (σ.2 c1)) (H1 := H.setIfInBounds (g_b X + c1) (vp_cell X.2.1.2.2.1 (n1, .inl (va_cpy (σ.1 c0) (σ.1 c1) sp.toNatClampNeg dp.toNatClampNeg n.toNatClampNeg)))) (by
    show (H.setIfInBounds (g_b X + c1) _)[g_b X + c1]? = some _
    simp [Array.getElem?_setIfInBounds, hlt]) (oq _)
  rw [g_set1 hT1] at hP2
  have hS2 : ∀ L : List Loc, (∀ q ∈ L, q.base = g_b X + c1) → va_S (fun q => g_b X ≤ q) (g_s X).heap (H.setIfInBounds (g_b X + c1) (vp_cell X.2.1.2.2.1 (n1, .inl (va_cpy (σ.1 c0) (σ.1 c1) sp.toNatClampNeg dp.toNatClampNeg n.toNatClampNeg)))) (locs ++ L) := fun L hL => ⟨by simp; exact hW.2.1, fun q g1 g2 => by
      rw [oq _ q (fun e => g2 (by rw [e]; show g_b X ≤ _; omega))]
      exact hW.2.2.1 q g1 g2, fun q hq => by
      rcases List.mem_append.mp hq with h | h
      · exact hW.2.2.2 q h
      · show g_b X ≤ q.base
        rw [hL q h]; omega⟩
  obtain ⟨t, a1, b1⟩ := h a ha _ _ ls ⟨⟨by simp; exact hW.1.1, hP2⟩, hS2 _ (fun q hq => by obtain ⟨z, -, hz⟩ := List.mem_map.mp hq; rw [← hz])⟩ hl _ (by rw [← hT]; rfl) X'
  exact ⟨t, step t a1, b1⟩
theorem G_copyk (C : g_C X cc own Ts rm nL) {index c0 c1 n0 n1 ks kd kn : Nat} {sp dp n : Int32} (w : g_cw Ts own index) (hfit : g_cfit rm st = true) (hT0 : g_has (g_n X) (g_T X) c0 (.inr (.inl n0))) (hT1 : g_has (g_n X) (g_T X) c1 (.inr (.inl n1))) (hb : (decide (0 ≤ sp) && decide (0 ≤ dp) && decide (0 ≤ n) && Nat.ble (sp.toNatClampNeg + n.toNatClampNeg) n0 && Nat.ble (dp.toNatClampNeg + n.toNatClampNeg) n1) = true) (h1 : sp.toNatClampNeg = ks) (h2 : dp.toNatClampNeg = kd) (h3 : n.toNatClampNeg = kn) (d : decode cc pc = .ok (.invokestatic index, 3))
    (h : G X (pc + 3) lv st (g_sA σ c1 (va_cpy (σ.1 c0) (σ.1 c1) ks kd kn)) o) : G X pc lv (.int n :: .int dp :: .ref (g_b X + c1) :: .int sp :: .ref (g_b X + c0) :: st) σ o := by
  subst h1; subst h2; subst h3
  exact G_copy C w hfit hT0 hT1 hb d h
end GC
section GQ
variable {cc : ByteArray} {own : String} {Ts : List Cond} {rm : Room} {nL : Nat} {pc : Nat} {lv : List (Nat × Value)} {σ : g_St}
def g_qI (X : g_X (Int32 × g_St)) : Prop := X.1.2.2.2.2.2.2.2.2.1.sig.returnType = some .int ∧ X.1.2.2.2.2.2.2.2.2.1.locks = false ∧ X.2.2.2.2 = fun a => MQ X.1.2.2.2.2.2.2.2.1 (g_Qi X.2.1 (g_n X) (g_T X) a) X.1.2.2.2.2.2.2.1 (g_s X) X.2.2.1.1 X.2.2.1.2.1 (g_A X.2.1)
def g_qZ (X : g_X (Int32 × g_St)) : Prop := X.1.2.2.2.2.2.2.2.2.1.sig.returnType = some .boolean ∧ X.1.2.2.2.2.2.2.2.2.1.locks = false ∧ X.2.2.2.2 = fun a => MQ X.1.2.2.2.2.2.2.2.1 (g_Qi X.2.1 (g_n X) (g_T X) a) X.1.2.2.2.2.2.2.1 (g_s X) X.2.2.1.1 X.2.2.1.2.1 (g_A X.2.1)
def g_qL (X : g_X (Int64 × g_St)) : Prop := X.1.2.2.2.2.2.2.2.2.1.sig.returnType = some .long ∧ X.1.2.2.2.2.2.2.2.2.1.locks = false ∧ X.2.2.2.2 = fun a => MQ X.1.2.2.2.2.2.2.2.1 (g_Ql X.2.1 (g_n X) (g_T X) a) X.1.2.2.2.2.2.2.1 (g_s X) X.2.2.1.1 X.2.2.1.2.1 (g_A X.2.1)
def g_qV (X : g_X g_St) : Prop := X.1.2.2.2.2.2.2.2.2.1.sig.returnType = none ∧ X.1.2.2.2.2.2.2.2.2.1.locks = false ∧ X.2.2.2.2 = fun a => MQ X.1.2.2.2.2.2.2.2.1 (g_Qv X.2.1 (g_n X) (g_T X) a) X.1.2.2.2.2.2.2.1 (g_s X) X.2.2.1.1 X.2.2.1.2.1 (g_A X.2.1)
theorem G_iret {X : g_X (Int32 × g_St)} (C : g_C X cc own Ts rm nL) (q : g_qI X) {v : Int32} (d : decode cc pc = .ok (.ireturn, 1)) : G X pc lv [.int v] σ (some (v, σ)) := by
  intro a ha H locs ls hW hl
  cases ha
  unfold g_W
  rw [q.2.2]
  exact W.iret C.1 C.2.1 q.1 (fun t ht hWm => ⟨⟨v, σ, rfl, rfl, by rw [ht]; exact hW.1, g_K_warm hWm C.2.2.2.2.2.1⟩, hW.2.F ht⟩) hW.2.2.2 d q.2.1
theorem G_zret {X : g_X (Int32 × g_St)} (C : g_C X cc own Ts rm nL) (q : g_qZ X) {v : Int32} (hv : g_b01 v) (d : decode cc pc = .ok (.ireturn, 1)) : G X pc lv [.int v] σ (some (v, σ)) := by
  intro a ha H locs ls hW hl
  cases ha
  unfold g_W
  rw [q.2.2]
  exact W.zret C.1 C.2.1 q.1 (by rcases hv with h | h <;> subst h <;> decide +kernel) (fun t ht hWm => ⟨⟨v, σ, rfl, rfl, by rw [ht]; exact hW.1, g_K_warm hWm C.2.2.2.2.2.1⟩, hW.2.F ht⟩) hW.2.2.2 d q.2.1
theorem G_lret {X : g_X (Int64 × g_St)} (C : g_C X cc own Ts rm nL) (q : g_qL X) {v : Int64} (d : decode cc pc = .ok (.lreturn, 1)) : G X pc lv [.long v] σ (some (v, σ)) := by
  intro a ha H locs ls hW hl
  cases ha
  unfold g_W
  rw [q.2.2]
  exact W.lret C.1 C.2.1 q.1 (fun t ht hWm => ⟨⟨v, σ, rfl, rfl, by rw [ht]; exact hW.1, g_K_warm hWm C.2.2.2.2.2.1⟩, hW.2.F ht⟩) hW.2.2.2 d q.2.1
theorem G_vret {X : g_X g_St} (C : g_C X cc own Ts rm nL) (q : g_qV X) (d : decode cc pc = .ok (.return_, 1)) : G X pc lv [] σ (some σ) := by
  intro a ha H locs ls hW hl
  cases ha
  unfold g_W
  rw [q.2.2]
  exact W.vret C.1 C.2.1 q.1 (fun t ht hWm => ⟨⟨σ, rfl, rfl, by rw [ht]; exact hW.1, g_K_warm hWm C.2.2.2.2.2.1⟩, hW.2.F ht⟩) hW.2.2.2 d q.2.1
end GQ

theorem g_metI {l : Launch} {y : MethodName} {ws ws' : List Cond} {rm : Room} {cc : ByteArray} {maxL : Nat} {own : String} {E : g_E} {n : Nat} {T : Nat → g_Sh} {As : List Value} {σ : g_St} {a : Int32 × g_St} (hy : plainName y.cls = true) (hw : ws = .code y cc maxL (some .int) :: ws') (ho : y.cls = own) (hlen : (lg_sl As).length ≤ maxL)
    (body : ∀ (M : g_M) (Qf : Int32 × g_St → State → Prop), g_C (M, E, (0, 0, n, T), maxL, Qf) cc own ws rm maxL → g_qI (M, E, (0, 0, n, T), maxL, Qf) → G (M, E, (0, 0, n, T), maxL, Qf) 0 (lv_args 0 As) [] σ (some a)) : Met l y ws rm (g_Pc E n T As σ) (g_Qi E n T a) 0 0 (g_A E) := by
  refine Met.ofW hy hw ?_
  intro p e s m args below meth c s₁ B hml hv
  obtain ⟨rfl, hWd, hK⟩ := hv
  have hown : s.vm.findClass own = some m.cls := by rw [← ho]; exact findClass_of_methodNamed B.named
  have h := body (p, l, e, (headSpec ws rm).room, s, m, As.toArray, below, meth, c) (fun a => MQ below (g_Qi E n T a) As.toArray s 0 0 (g_A E)) ⟨B.exec, B.bytes, hml, hown, atoms_spec (ws := ws) B.pre, hK, by have := hWd.1; show E.2.1 ≤ s.heap.size; omega, rfl, Nat.zero_le _, Nat.zero_le _, rfl⟩ ⟨B.returns, B.notSynchronized, rfl⟩ a rfl s.heap [] _ ⟨hWd, va_S.rf⟩ (lv_entry As hlen)
  rw [lg_entry_eq]
  exact h
theorem g_metZ {l : Launch} {y : MethodName} {ws ws' : List Cond} {rm : Room} {cc : ByteArray} {maxL : Nat} {own : String} {E : g_E} {n : Nat} {T : Nat → g_Sh} {As : List Value} {σ : g_St} {a : Int32 × g_St} (hy : plainName y.cls = true) (hw : ws = .code y cc maxL (some .boolean) :: ws') (ho : y.cls = own) (hlen : (lg_sl As).length ≤ maxL)
    (body : ∀ (M : g_M) (Qf : Int32 × g_St → State → Prop), g_C (M, E, (0, 0, n, T), maxL, Qf) cc own ws rm maxL → g_qZ (M, E, (0, 0, n, T), maxL, Qf) → G (M, E, (0, 0, n, T), maxL, Qf) 0 (lv_args 0 As) [] σ (some a)) : Met l y ws rm (g_Pc E n T As σ) (g_Qi E n T a) 0 0 (g_A E) := by
  refine Met.ofW hy hw ?_
  intro p e s m args below meth c s₁ B hml hv
  obtain ⟨rfl, hWd, hK⟩ := hv
  have hown : s.vm.findClass own = some m.cls := by rw [← ho]; exact findClass_of_methodNamed B.named
  have h := body (p, l, e, (headSpec ws rm).room, s, m, As.toArray, below, meth, c) (fun a => MQ below (g_Qi E n T a) As.toArray s 0 0 (g_A E)) ⟨B.exec, B.bytes, hml, hown, atoms_spec (ws := ws) B.pre, hK, by have := hWd.1; show E.2.1 ≤ s.heap.size; omega, rfl, Nat.zero_le _, Nat.zero_le _, rfl⟩ ⟨B.returns, B.notSynchronized, rfl⟩ a rfl s.heap [] _ ⟨hWd, va_S.rf⟩ (lv_entry As hlen)
  rw [lg_entry_eq]
  exact h
theorem g_metL {l : Launch} {y : MethodName} {ws ws' : List Cond} {rm : Room} {cc : ByteArray} {maxL : Nat} {own : String} {E : g_E} {n : Nat} {T : Nat → g_Sh} {As : List Value} {σ : g_St} {a : Int64 × g_St} (hy : plainName y.cls = true) (hw : ws = .code y cc maxL (some .long) :: ws') (ho : y.cls = own) (hlen : (lg_sl As).length ≤ maxL)
    (body : ∀ (M : g_M) (Qf : Int64 × g_St → State → Prop), g_C (M, E, (0, 0, n, T), maxL, Qf) cc own ws rm maxL → g_qL (M, E, (0, 0, n, T), maxL, Qf) → G (M, E, (0, 0, n, T), maxL, Qf) 0 (lv_args 0 As) [] σ (some a)) : Met l y ws rm (g_Pc E n T As σ) (g_Ql E n T a) 0 0 (g_A E) := by
  refine Met.ofW hy hw ?_
  intro p e s m args below meth c s₁ B hml hv
  obtain ⟨rfl, hWd, hK⟩ := hv
  have hown : s.vm.findClass own = some m.cls := by rw [← ho]; exact findClass_of_methodNamed B.named
  have h := body (p, l, e, (headSpec ws rm).room, s, m, As.toArray, below, meth, c) (fun a => MQ below (g_Ql E n T a) As.toArray s 0 0 (g_A E)) ⟨B.exec, B.bytes, hml, hown, atoms_spec (ws := ws) B.pre, hK, by have := hWd.1; show E.2.1 ≤ s.heap.size; omega, rfl, Nat.zero_le _, Nat.zero_le _, rfl⟩ ⟨B.returns, B.notSynchronized, rfl⟩ a rfl s.heap [] _ ⟨hWd, va_S.rf⟩ (lv_entry As hlen)
  rw [lg_entry_eq]
  exact h
theorem g_metV {l : Launch} {y : MethodName} {ws ws' : List Cond} {rm : Room} {cc : ByteArray} {maxL : Nat} {own : String} {E : g_E} {n : Nat} {T : Nat → g_Sh} {As : List Value} {σ : g_St} {a : g_St} (hy : plainName y.cls = true) (hw : ws = .code y cc maxL none :: ws') (ho : y.cls = own) (hlen : (lg_sl As).length ≤ maxL)
    (body : ∀ (M : g_M) (Qf : g_St → State → Prop), g_C (M, E, (0, 0, n, T), maxL, Qf) cc own ws rm maxL → g_qV (M, E, (0, 0, n, T), maxL, Qf) → G (M, E, (0, 0, n, T), maxL, Qf) 0 (lv_args 0 As) [] σ (some a)) : Met l y ws rm (g_Pc E n T As σ) (g_Qv E n T a) 0 0 (g_A E) := by
  refine Met.ofW hy hw ?_
  intro p e s m args below meth c s₁ B hml hv
  obtain ⟨rfl, hWd, hK⟩ := hv
  have hown : s.vm.findClass own = some m.cls := by rw [← ho]; exact findClass_of_methodNamed B.named
  have h := body (p, l, e, (headSpec ws rm).room, s, m, As.toArray, below, meth, c) (fun a => MQ below (g_Qv E n T a) As.toArray s 0 0 (g_A E)) ⟨B.exec, B.bytes, hml, hown, atoms_spec (ws := ws) B.pre, hK, by have := hWd.1; show E.2.1 ≤ s.heap.size; omega, rfl, Nat.zero_le _, Nat.zero_le _, rfl⟩ ⟨B.returns, B.notSynchronized, rfl⟩ a rfl s.heap [] _ ⟨hWd, va_S.rf⟩ (lv_entry As hlen)
  rw [lg_entry_eq]
  exact h
