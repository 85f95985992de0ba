/-! new cells -/
def g_sB (σ : g_St) (c : Nat) (g : Nat → Int64) : g_St := (σ.1, va_up σ.2 c g)
theorem g_wl_succ (E : g_E) (n : Nat) (T : Nat → g_Sh) (σ : g_St) : g_wl E (n + 1) T σ = g_wl E n T σ ++ [(E.2.1 + n, g_ce E (T n) (σ.1 n) (σ.2 n))] := by
  simp [g_wl, List.range_succ]
theorem g_wl_congr {E : g_E} {n : Nat} {T T' : Nat → g_Sh} {σ σ' : g_St} (h : ∀ c, c < n → T c = T' c ∧ σ.1 c = σ'.1 c ∧ σ.2 c = σ'.2 c) : g_wl E n T σ = g_wl E n T' σ' := by
  unfold g_wl
  apply List.map_congr_left
  intro c hc
  obtain ⟨h1, h2, h3⟩ := h c (List.mem_range.mp hc)
  rw [h1, h2, h3]
theorem g_Wd_T {E : g_E} {n : Nat} {T T' : Nat → g_Sh} {σ : g_St} {H : Heap} (h : ∀ c, c < n → T c = T' c) (hW : g_Wd E n T σ H) : g_Wd E n T' σ H := ⟨hW.1, by rw [← g_wl_congr (σ := σ) (fun c hc => ⟨h c hc, rfl, rfl⟩)]; exact hW.2⟩
/-- a heap that is one cell longer -/
theorem g_grow {E : g_E} {n : Nat} {T : Nat → g_Sh} {σ σ' : g_St} {sh : g_Sh} {H H1 : Heap} (hW : g_Wd E n T σ H) (hz : H1.size = H.size + 1) (ho : ∀ q, q < H.size → H1[q]? = H[q]?) (hσ : ∀ c, c < n → σ.1 c = σ'.1 c ∧ σ.2 c = σ'.2 c) (hn : va_at E.1 vwCl (E.2.1 + n, g_ce E sh (σ'.1 n) (σ'.2 n)) H1) : g_Wd E (n + 1) (va_up T n sh) σ' H1 := by
  refine ⟨by rw [hz, hW.1]; omega, ?_⟩
  have e : g_wl E (n + 1) (va_up T n sh) σ' = g_wl E n T σ ++ [(E.2.1 + n, g_ce E sh (σ'.1 n) (σ'.2 n))] := by
    rw [g_wl_succ, g_up_s, g_wl_congr (T := va_up T n sh) (T' := T) (σ := σ') (σ' := σ) (fun c hc => ⟨g_up_n _ _ (Nat.ne_of_lt hc), (hσ c hc).1.symm, (hσ c hc).2.symm⟩)]
  rw [e]
  refine (hW.2.kept (fun k x hx => ho x.1 ?_)).app (fun k x hx => ?_)
  · have := g_wl_get hx
    rw [hW.1]; omega
  · have h0 : k < 1 := (List.getElem?_eq_some_iff.mp hx).1
    rw [show k = 0 by omega] at hx
    cases hx
    exact hn
theorem g_S_grow {A : Nat → Prop} {H0 H H1 : Heap} {locs : List Loc} (hS : va_S A H0 H locs) (hz : H.size ≤ H1.size) (ho : ∀ q, q < H.size → H1[q]? = H[q]?) : va_S A H0 H1 locs := ⟨Nat.le_trans hS.1 hz, fun x h1 h2 => (ho x (Nat.lt_of_lt_of_le h1 hS.1)).trans (hS.2.1 x h1 h2), hS.2.2⟩
section GN
variable {α : Type} {M : g_M} {E : g_E} {cells slots n nL : Nat} {T : Nat → g_Sh} {Qf : α → State → Prop} {cc : ByteArray} {own : String} {Ts : List Cond} {rm : Room} {pc : Nat} {lv lv' : List (Nat × Value)} {st : List Value} {σ : g_St} {o : Option α}
theorem g_C_at (C : g_C (M, E, (cells, slots, n, T), nL, Qf) cc own Ts rm nL) (cells' slots' n' : Nat) (T' : Nat → g_Sh) (h : (Nat.ble cells' rm.cells && Nat.ble slots' rm.slots) = true) : g_C (M, E, (cells', slots', n', T'), nL, Qf) cc own Ts rm nL := by
  simp only [Bool.and_eq_true] at h
  obtain ⟨a1, a2, a3, a4, a5, a6, a7, a8, a9, a10, a11⟩ := C
  exact ⟨a1, a2, a3, a4, a5, a6, a7, a8, Nat.le_of_ble_eq_true h.1, Nat.le_of_ble_eq_true h.2, a11⟩
/-- a class that a method makes an object of -/
def g_Cls (Ts : List Cond) (own : String) (index ci N : Nat) (ds : List (Option (Option Nat))) : Prop := ∃ (C : String) (T : u_T) (ty : Nat → FieldType), vwCl[ci]? = some (C, T, N) ∧ (∀ w ∈ u_ws C T N, w ∈ Ts) ∧ (∀ k, k < N → parseFieldDescriptor (T k).2.2.1 = some (ty k)) ∧ Cond.classLink own index C ∈ Ts ∧ Cond.instantiable C N ∈ Ts ∧ Cond.initialized C ∈ Ts ∧ ∀ j, j < N → ∀ b : Nat, defaultValue (ty j) = vp_V (g_fs b (fun _ => 0) ds) j
theorem G_new (C : g_C (M, E, (cells, slots, n, T), nL, Qf) cc own Ts rm nL) {index ci N : Nat} {ds : List (Option (Option Nat))} (F : g_Cls Ts own index ci N ds) (hr : (Nat.ble (cells + 1) rm.cells && Nat.ble (slots + N) rm.slots) = true) (d : decode cc pc = .ok (.new index, 3)) (h : G (M, E, (cells + 1, slots + N, n + 1, va_up T n (.inl (ci, ds))), nL, Qf) (pc + 3) lv (.ref (E.2.1 + n) :: st) (g_sA σ n (fun _ => 0)) o) : G (M, E, (cells, slots, n, T), nL, Qf) pc lv st σ o := by
  obtain ⟨C', T', ty, f1, f2, f3, f4, f5, f6, f7⟩ := F
  simp only [Bool.and_eq_true] at hr
  have r1 := Nat.le_of_ble_eq_true hr.1
  have r2 := Nat.le_of_ble_eq_true hr.2
  intro a ha H locs ls hW hl
  obtain ⟨hx, hb, hml, hown, hts, hK, hbs, hR, hcl, hsl, hnL⟩ := C
  have hKn := hK.1.1 ci _ f1
  have e8 : H.size = E.2.1 + n := hW.1.1
  refine W.newcK (h := H.size) hx hb hown (hts _ f4) (hts _ f5) (hts _ f6) rfl d (by rw [hR]; exact r1) (by rw [hR]; exact r2) hKn.2.1 rfl fun H1 kC hkC e1 z1 o1 => ?_
  have hb2 := (u_born ty hts f2 hKn hkC e1 f3).to (fun j hj => f7 j hj E.2.1)
  have hh := h a ha H1 locs ls ⟨g_grow hW.1 z1 o1 (fun c hc => ⟨(g_up_n _ _ (Nat.ne_of_lt hc)).symm, rfl⟩) (by
    refine ⟨_, f1, ?_⟩
    have e9 : (g_sA σ n (fun _ => 0)).1 n = fun _ => 0 := g_up_s _ _ _
    show t_OB (E.2.1 + n) _ _ _ _ (vp_V (g_fs E.2.1 ((g_sA σ n (fun _ => 0)).1 n) ds))
    rw [e9, ← e8]
    exact hb2), g_S_grow hW.2 (by omega) o1⟩ hl
  rw [e8]
  exact hh
theorem g_cls_eq {E : g_E} {s : State} (hK : g_K E s) {cA : ClassId} (h : s.vm.findClass ("[" ++ FieldType.int.toString) = some cA) : cA = E.2.2.1 := by
  have h2 : s.vm.findClass ("[" ++ FieldType.int.toString) = some E.2.2.1 := (hK.1.2 0 _ rfl).2
  exact Option.some.inj (h.symm.trans h2)
theorem g_cls_eqL {E : g_E} {s : State} (hK : g_K E s) {cA : ClassId} (h : s.vm.findClass ("[" ++ FieldType.long.toString) = some cA) : cA = E.2.2.2.1 := by
  have h2 : s.vm.findClass ("[" ++ FieldType.long.toString) = some E.2.2.2.1 := (hK.1.2 1 _ rfl).2
  exact Option.some.inj (h.symm.trans h2)
theorem G_newI (C : g_C (M, E, (cells, slots, n, T), nL, Qf) cc own Ts rm nL) (hT : Cond.arrayClass .int ∈ Ts) {v : Int32} {N : Nat} (hv : (decide (0 ≤ v) && Nat.beq v.toNatClampNeg N && Nat.ble (N * 4) 536870912) = true) (hr : (Nat.ble (cells + 1) rm.cells && Nat.ble (slots + N) rm.slots) = true) (d : decode cc pc = .ok (.newarray .int, 2)) (h : G (M, E, (cells + 1, slots + N, n + 1, va_up T n (.inr (.inl N))), nL, Qf) (pc + 2) lv (.ref (E.2.1 + n) :: st) (g_sA σ n (fun _ => 0)) o) : G (M, E, (cells, slots, n, T), nL, Qf) pc lv (.int v :: st) σ o := by
  simp only [Bool.and_eq_true, decide_eq_true_eq] at hr hv
  have r1 := Nat.le_of_ble_eq_true hr.1
  have r2 := Nat.le_of_ble_eq_true hr.2
  intro a ha H locs ls hW hl
  obtain ⟨hx, hb, hml, hown, hts, hK, hbs, hR, hcl, hsl, hnL⟩ := C
  refine va_newaK (atype := .int) (N := N) (h := H.size) hx hb (hts _ hT) rfl d rfl (Int32.not_lt.mpr hv.1.1) (Nat.eq_of_beq_eq_true hv.1.2) (Nat.le_of_ble_eq_true hv.2) (by rw [hR]; exact r1) (by rw [hR]; exact r2) rfl fun H1 cA e1 z1 o1 hAr hNm => ?_
  have hcA : cA = E.2.2.1 := g_cls_eq hK hNm
  subst hcA
  have hh := h a ha H1 locs ls ⟨g_grow hW.1 z1 o1 (fun c hc => ⟨(g_up_n _ _ (Nat.ne_of_lt hc)).symm, rfl⟩) (by
    show H1[E.2.1 + n]? = some (vp_cell E.2.2.1 (N, .inl ((g_sA σ n (fun _ => 0)).1 n)))
    have e9 : (g_sA σ n (fun _ => 0)).1 n = fun _ => 0 := g_up_s _ _ _
    have e8 : H.size = E.2.1 + n := hW.1.1
    rw [e9, ← e8, e1, vp_cell_i]
    rfl), g_S_grow hW.2 (by omega) o1⟩ hl
  have e8 : H.size = E.2.1 + n := hW.1.1
  rw [e8]
  exact hh
theorem G_newL (C : g_C (M, E, (cells, slots, n, T), nL, Qf) cc own Ts rm nL) (hT : Cond.arrayClass .long ∈ Ts) {v : Int32} {N : Nat} (hv : (decide (0 ≤ v) && Nat.beq v.toNatClampNeg N && Nat.ble (N * 8) 536870912) = true) (hr : (Nat.ble (cells + 1) rm.cells && Nat.ble (slots + N) rm.slots) = true) (d : decode cc pc = .ok (.newarray .long, 2)) (h : G (M, E, (cells + 1, slots + N, n + 1, va_up T n (.inr (.inr (.inl N)))), nL, Qf) (pc + 2) lv (.ref (E.2.1 + n) :: st) (g_sB σ n (fun _ => 0)) o) : G (M, E, (cells, slots, n, T), nL, Qf) pc lv (.int v :: st) σ o := by
  simp only [Bool.and_eq_true, decide_eq_true_eq] at hr hv
  have r1 := Nat.le_of_ble_eq_true hr.1
  have r2 := Nat.le_of_ble_eq_true hr.2
  intro a ha H locs ls hW hl
  obtain ⟨hx, hb, hml, hown, hts, hK, hbs, hR, hcl, hsl, hnL⟩ := C
  refine va_newaK (atype := .long) (N := N) (h := H.size) hx hb (hts _ hT) rfl d rfl (Int32.not_lt.mpr hv.1.1) (Nat.eq_of_beq_eq_true hv.1.2) (Nat.le_of_ble_eq_true hv.2) (by rw [hR]; exact r1) (by rw [hR]; exact r2) rfl fun H1 cA e1 z1 o1 hAr hNm => ?_
  have hcA : cA = E.2.2.2.1 := g_cls_eqL hK hNm
  subst hcA
  have hh := h a ha H1 locs ls ⟨g_grow hW.1 z1 o1 (fun c hc => ⟨rfl, (g_up_n _ _ (Nat.ne_of_lt hc)).symm⟩) (by
    show H1[E.2.1 + n]? = some (vp_cell E.2.2.2.1 (N, .inr (.inl ((g_sB σ n (fun _ => 0)).2 n))))
    have e9 : (g_sB σ n (fun _ => 0)).2 n = fun _ => 0 := g_up_s _ _ _
    have e8 : H.size = E.2.1 + n := hW.1.1
    rw [e9, ← e8, e1, vp_cell_l]
    rfl), g_S_grow hW.2 (by omega) o1⟩ hl
  have e8 : H.size = E.2.1 + n := hW.1.1
  rw [e8]
  exact hh
def g_FldF (Ts : List Cond) (own : String) (index ci k : Nat) (ty : FieldType) : Prop := ∃ (C : String) (T : u_T) (N : Nat) (t0 : Nat → FieldType), vwCl[ci]? = some (C, T, N) ∧ (∀ w ∈ u_ws C T N, w ∈ Ts) ∧ k < N ∧ Cond.fieldLink own index (T k).1 (T k).2.1 (T k).2.2.1 ∈ Ts ∧ (∀ k, k < N → parseFieldDescriptor (T k).2.2.1 = some (t0 k)) ∧ (∀ a, a < N → ∀ b, b < N → a ≠ b → (T a).2.1 ≠ (T b).2.1) ∧ (T k).2.2.2 = true ∧ parseFieldDescriptor (T k).2.2.1 = some ty ∧ (T k).1 = own
theorem G_putF (C : g_C (M, E, (cells, slots, n, T), nL, Qf) cc own Ts rm nL) (hin : M.2.2.2.2.2.2.2.2.1.name = "<init>") {index ci k c r : Nat} {ds : List (Option (Option Nat))} {ty : FieldType} (F : g_FldF Ts own index ci k ty) (hT : g_has n T c (.inl (ci, ds))) (hk : k < ds.length) (hty : ty.isReference = true) (hn : narrow ty (.ref (E.2.1 + r)) = .ref (E.2.1 + r)) (hfit : fits ty (.ref (E.2.1 + r)) = true) (d : decode cc pc = .ok (.putfield index, 3)) (h : G (M, E, (cells, slots, n, va_up T c (.inl (ci, ds.set k (some (some r))))), nL, Qf) (pc + 3) lv st σ o) : G (M, E, (cells, slots, n, T), nL, Qf) pc lv (.ref (E.2.1 + r) :: .ref (E.2.1 + c) :: st) σ o := by
  obtain ⟨C', T', N, t0, f1, f2, f3, f4, f5, f6, f7, f8, f9⟩ := F
  intro a ha H locs ls hW hl
  have hlen : k < (g_fs E.2.1 (σ.1 c) ds).length := by rw [g_fs_len]; exact hk
  have hK := C.2.2.2.2.2.1.1
  have hD := g_D E n T σ
  have hap := va_apart (own := own) C.2.2.2.2.1 f2 t0 f5 f6 hK f1
  obtain ⟨r', h1, cell, q1, q2, q3, q4⟩ := hW.1.2 c _ (g_wl_at hT)
  have hr : r' = (C', T', N) := Option.some.inj (h1.symm.trans f1)
  subst hr
  obtain ⟨hS, hfc, kC, hkC, hkind⟩ := hK.1 ci _ f1
  obtain ⟨cf, kf, fi, f, hi, hsl⟩ := hS k f3
  have hlay := C.2.2.2.2.1 _ (f2 _ (u_in_lay f3))
  unfold u_lay at hlay
  rw [if_pos f7] at hlay
  have hst := (u_facts hfc hkC (u_lays C.2.2.2.2.1 f2 f3) hi).1
  have hcf : M.2.2.2.2.2.1.cls = cf := by
    obtain ⟨_, _, c', _, _, _, -, -, hf', -, -, -, hown2, -⟩ := Cond.laysFinal_spec hlay
    have e1 : c' = cf := by have := hi.symm.trans hf'; simp at this; exact this.1.symm
    rw [f9] at hown2
    rw [← e1]; exact Option.some.inj (C.2.2.2.1.symm.trans hown2)
  have h6 := u_fits hfc hkC hkind (Or.inr hlay) hi f8 hn hfit
  refine W.putFinK C.1 C.2.1 C.2.2.2.1 (C.2.2.2.2.1 _ f4) hi hst hcf hin (by rw [q2]; exact h6) q1 q3 (by rw [hsl]; exact k2_hasslot (q4 k f3)) rfl rfl d fun H' e1 e2 e3 => ?_
  rw [hsl] at e1 ⊢
  have hP2 := hW.1.2.set hD (g_wl_at hT) (e := .inr (ci, (g_fs E.2.1 (σ.1 c) ds).set k (.ref (E.2.1 + r)))) ⟨_, f1, t_OB.to (V := updV (vp_V (g_fs E.2.1 (σ.1 c) ds)) k (.ref (E.2.1 + r))) ⟨_, e1, q2, q3, t_set q4 hap f3 (.ref (E.2.1 + r))⟩ (fun j _ => vp_updV_set hlen (.ref (E.2.1 + r)) j)⟩ e3
  rw [g_fs_setR _ _ _ _ _ hk] at hP2
  refine h a ha H' _ ls ⟨⟨e2.trans hW.1.1, ?_⟩, hW.2.put e2 e3 (hD.2 c _ (g_wl_at hT))⟩ hl
  have e10 : g_wl E n (va_up T c (.inl (ci, ds.set k (some (some r))))) σ = (g_wl E n T σ).set c (E.2.1 + c, .inr (ci, g_fs E.2.1 (σ.1 c) (ds.set k (some (some r))))) := by
    apply List.ext_getElem?
    intro j
    rw [List.getElem?_set, g_wl_len]
    by_cases hj : c = j
    · subst hj
      rw [if_pos rfl, if_pos hT.1, g_wl_at ⟨hT.1, g_up_s _ _ _⟩]
      rfl
    · rw [if_neg hj]
      by_cases hl : j < n
      · rw [g_wl_at ⟨hl, rfl⟩, g_wl_at ⟨hl, rfl⟩, g_up_n _ _ (Ne.symm hj)]
      · rw [List.getElem?_eq_none (by rw [g_wl_len]; omega), List.getElem?_eq_none (by rw [g_wl_len]; omega)]
  show va_P E.1 vwCl (g_wl E n (va_up T c (.inl (ci, ds.set k (some (some r))))) σ) H'
  rw [e10]
  exact hP2
theorem G_objInit (C : g_C (M, E, (cells, slots, n, T), nL, Qf) cc own Ts rm nL) {index c : Nat} (w : Cond.methodLink own index Lib.objectInit ∈ Ts ∧ Cond.instanceMethod Lib.objectInit ∈ Ts ∧ Cond.code Lib.objectInit ⟨#[0xb1]⟩ 1 none ∈ Ts) (hr : (Nat.ble 1 rm.frames && Nat.ble ((st.map fun v => v.category).sum + 12) rm.locals) = true) (d : decode cc pc = .ok (.invokespecial index, 3)) (h : G (M, E, (cells, slots, n, T), nL, Qf) (pc + 3) lv st σ o) : G (M, E, (cells, slots, n, T), nL, Qf) pc lv (.ref (E.2.1 + c) :: st) σ o := by
  simp only [Bool.and_eq_true] at hr
  have r1 := Nat.le_of_ble_eq_true hr.1
  have r2 := Nat.le_of_ble_eq_true hr.2
  intro a ha H locs ls hW hl
  obtain ⟨hx, hb, hml, hown, hts, hK, hbs, hR, hcl, hsl, hnL⟩ := C
  exact W.objInit hx hb hown (hts _ w.1) (hts _ w.2.1) (hts _ w.2.2) rfl (hl.1.trans hml.symm) rfl d (by rw [hR]; exact r1) (by rw [hR]; show 2 * 0 + _ + 12 ≤ _; omega) (h a ha H locs ls hW hl)
/-- a constructor's call: the world grows -/
theorem G_callN (C : g_C (M, E, (cells, slots, n, T), nL, Qf) cc own Ts rm nL) {y : MethodName} {bytes : ByteArray} {maxL nargs index c mc ms n1 : Nat} {T1 : Nat → g_Sh} {ws ws' : List Cond} {rc : Room} {As rest : List Value} {oc : Option g_St} {k : g_St → Option α} (hG : GoodIn Ts ws) (hw : ws = .code y bytes maxL none :: ws') (hwd : Cond.initialized y.cls ∈ Ts ∧ Cond.methodLink own index y ∈ Ts ∧ Cond.instanceMethod y ∈ Ts) (hy1 : y.name = "<init>") (hd : y.cls ≠ "java/lang/invoke/MethodHandle" ∧ y.cls ≠ "java/lang/invoke/VarHandle" ∧ (parseMethodDescriptor y.desc).map (fun d => d.parameters.length) = some nargs)
    (hfit : (Nat.beq rc.cells mc && Nat.beq rc.slots ms && Nat.ble (rc.frames + 1) rm.frames && Nat.ble (8 + (maxL + 11) + rc.locals) rm.locals && Nat.ble (cells + mc) rm.cells && Nat.ble (slots + ms) rm.slots) = true) (hn : As.length = nargs) (hcat : Nat.ble (rest.map fun v => v.category).sum 8 = true) (d : decode cc pc = .ok (.invokespecial index, 3))
    {Px : State → Prop} (hPx : ∀ U : State, M.2.2.2.2.1.WarmedH U.vm → Px U) (hPb : ∀ (U : State) (g : JFrame) (mk : MethodId) (a : Array Value), Px U → Px (U.calling g mk a))
    (hM : ∀ a, oc = some a → Met M.2.1 y ws rc (va_Pc (.ref (E.2.1 + c) :: As) (fun U => g_Wd E n T σ U.heap ∧ g_K E U ∧ Px U)) (g_Qv E n1 T1 a) mc ms (g_A E)) (h : ∀ a, G (M, E, (cells + mc, slots + ms, n1, T1), nL, Qf) (pc + 3) lv rest a (k a)) : G (M, E, (cells, slots, n, T), nL, Qf) pc lv (As.reverse ++ .ref (E.2.1 + c) :: rest) σ (oc.bind k) := by
  intro a' ha' H locs ls hW hl
  obtain ⟨a, ha, hk⟩ := Option.bind_eq_some_iff.mp ha'
  simp only [Bool.and_eq_true] at hfit
  obtain ⟨⟨⟨⟨⟨g1, g2⟩, g3⟩, g4⟩, g5⟩, g6⟩ := hfit
  obtain ⟨hx, hb, hml, hown, hts, hK, hbs, hR, hcl, hsl, hnL⟩ := C
  have hr := va_runI (R := M.2.2.2.1) (l := M.2.1) (As := As) (rest := rest) (H := H) (locs := locs) (cells := cells) (slots := slots) (g := F0 M.2.2.2.2.2.1 pc ls (As.reverse ++ .ref (E.2.1 + c) :: rest)) ⟨hx, hb, hml, hown, hts⟩ (hM a ha) (cwI nargs hts hG hw (Nat.eq_of_beq_eq_true g1) (Nat.eq_of_beq_eq_true g2) (hts _ hwd.1) (hts _ hwd.2.1) (hts _ hwd.2.2) hy1 hd (by rw [hR]; exact ⟨Nat.le_of_ble_eq_true g3, Nat.le_of_ble_eq_true g4⟩)) ⟨fun a U g mk q => by obtain ⟨q0, q1, q2, q3⟩ := q; exact ⟨q0, q1, g_K_same (s := U) (U := U.calling g mk a) rfl q2, hPb U g mk a q3⟩, fun U hU hWm => ⟨rfl, by rw [hU]; exact hW.1, g_K_warm hWm hK, hPx U hWm⟩⟩ rfl hn hl.1 rfl (lv_room (Nat.le_of_ble_eq_true hcat)) d (by rw [hR]; exact ⟨Nat.le_of_ble_eq_true g5, Nat.le_of_ble_eq_true g6⟩) (e := M.2.2.1) (below := M.2.2.2.2.2.2.2.1) (meth := M.2.2.2.2.2.2.2.2.1)
  refine va_callv hr hW.2 (fun q _ h => h) (fun q h => h) (fun u t H1 locs1 ht hvm hp hB hz hk1 hS => ?_)
  subst hp
  exact h u a' hk H1 locs1 ls ⟨by rw [← ht]; exact hB.1, hS⟩ hl
end GN
def g_qN (X : g_X g_St) (n1 : Nat) (T1 : Nat → g_Sh) (mc ms : Nat) : Prop := X.1.2.2.2.2.2.2.2.2.1.sig.returnType = none ∧ X.1.2.2.2.2.2.2.2.2.1.locks = false ∧ X.1.2.2.2.2.2.2.2.2.1.name = "<init>" ∧ X.2.2.2.2 = fun a => MQ X.1.2.2.2.2.2.2.2.1 (g_Qv X.2.1 n1 T1 a) X.1.2.2.2.2.2.2.1 (g_s X) mc ms (g_A X.2.1)
theorem G_vretN {M : g_M} {E : g_E} {n nL mc ms : Nat} {T T1 : Nat → g_Sh} {Qf : g_St → State → Prop} {cc : ByteArray} {own : String} {Ts : List Cond} {rm : Room} {pc : Nat} {lv : List (Nat × Value)} {σ : g_St} (C : g_C (M, E, (mc, ms, n, T), nL, Qf) cc own Ts rm nL) (q : g_qN (M, E, (mc, ms, n, T), nL, Qf) n T1 mc ms) (hT : ∀ c, c < n → T c = T1 c) (d : decode cc pc = .ok (.return_, 1)) : G (M, E, (mc, ms, n, T), nL, Qf) pc lv [] σ (some σ) := by
  intro a ha H locs ls hW hl
  cases ha
  unfold g_W
  rw [q.2.2.2]
  exact W.vret C.1 C.2.1 q.1 (fun t ht hWm => ⟨⟨σ, rfl, rfl, by rw [ht]; exact g_Wd_T hT hW.1, g_K_warm hWm C.2.2.2.2.2.1⟩, hW.2.F ht⟩) hW.2.2.2 d q.2.1
theorem g_metN {l : Launch} {y : MethodName} {ws ws' : List Cond} {rm : Room} {cc : ByteArray} {maxL mc ms : Nat} {own : String} {E : g_E} {n n1 : Nat} {T T1 : Nat → g_Sh} {As : List Value} {σ : g_St} {a : g_St} {Px : State → Prop} (hy : plainName y.cls = true) (hw : ws = .code y cc maxL none :: ws') (ho : y.cls = own) (hnm : y.name = "<init>") (hlen : (lg_sl As).length ≤ maxL)
    (body : ∀ (M : g_M) (Qf : g_St → State → Prop), g_C (M, E, (0, 0, n, T), maxL, Qf) cc own ws rm maxL → g_qN (M, E, (0, 0, n, T), maxL, Qf) n1 T1 mc ms → Px M.2.2.2.2.1 → G (M, E, (0, 0, n, T), maxL, Qf) 0 (lv_args 0 As) [] σ (some a)) : Met l y ws rm (va_Pc As (fun U => g_Wd E n T σ U.heap ∧ g_K E U ∧ Px U)) (g_Qv E n1 T1 a) mc ms (g_A E) := by
  refine Met.ofW hy hw ?_
  intro p e s m args below meth c s₁ B hml hv
  obtain ⟨rfl, hWd, hK, hPx⟩ := hv
  have hown : s.vm.findClass own = some m.cls := by rw [← ho]; exact findClass_of_methodNamed B.named
  have hnm2 : meth.name = "<init>" := by rw [← hnm]; exact (name_of_methodNamed B.named B.method).1
  have h := body (p, l, e, (headSpec ws rm).room, s, m, As.toArray, below, meth, c) (fun a => MQ below (g_Qv E n1 T1 a) As.toArray s mc ms (g_A E)) ⟨B.exec, B.bytes, hml, hown, atoms_spec (ws := ws) B.pre, hK, by have := hWd.1; show E.2.1 ≤ s.heap.size; omega, rfl, Nat.zero_le _, Nat.zero_le _, rfl⟩ ⟨B.returns, B.notSynchronized, hnm2, rfl⟩ hPx a rfl s.heap [] _ ⟨hWd, va_S.rf⟩ (lv_entry As hlen)
  rw [lg_entry_eq]
  exact h
def g_upT (T : Nat → g_Sh) (lo hi : Nat) : Nat → g_Sh := fun c => if lo ≤ c ∧ c < hi then TC c else T c

/-- while a constructor runs: its own object o has the shape sh, what it made is as TC says, what was there is as it was -/
def g_B (T0 T : Nat → g_Sh) (o n : Nat) (sh : g_Sh) : Prop := o < n ∧ T o = sh ∧ (∀ c, c < o → T c = T0 c) ∧ ∀ c, o < c → c < n → T c = TC c
theorem g_B_has {T0 T : Nat → g_Sh} {o n : Nat} {sh : g_Sh} (B : g_B T0 T o n sh) : g_has n T o sh := ⟨B.1, B.2.1⟩
theorem g_B_arr {T0 T : Nat → g_Sh} {o n : Nat} {sh s : g_Sh} (B : g_B T0 T o n sh) (h : TC n = s) : g_B T0 (va_up T n s) o (n + 1) sh := by
  obtain ⟨b1, b2, b3, b4⟩ := B
  refine ⟨by omega, (g_up_n _ _ (by omega)).trans b2, fun c hc => (g_up_n _ _ (by omega)).trans (b3 c hc), fun c h1 h2 => ?_⟩
  by_cases e : c = n
  · subst e; rw [g_up_s]; exact h.symm
  · exact (g_up_n _ _ e).trans (b4 c h1 (by omega))
theorem g_B_put {T0 T : Nat → g_Sh} {o n : Nat} {sh : g_Sh} (B : g_B T0 T o n sh) (s : g_Sh) : g_B T0 (va_up T o s) o n s := by
  obtain ⟨b1, b2, b3, b4⟩ := B
  exact ⟨b1, g_up_s _ _ _, fun c hc => (g_up_n _ _ (by omega)).trans (b3 c hc), fun c h1 h2 => (g_up_n _ _ (by omega)).trans (b4 c h1 h2)⟩
theorem g_B_sub {T0 T : Nat → g_Sh} {o n n1 : Nat} {sh s : g_Sh} (B : g_B T0 T o n sh) (hn : n < n1) : g_B T0 (g_upT (va_up T n s) n n1) o n1 sh := by
  obtain ⟨b1, b2, b3, b4⟩ := B
  have hlow : ∀ c, c < n → g_upT (va_up T n s) n n1 c = T c := fun c hc => by
    unfold g_upT
    rw [if_neg (by omega), g_up_n _ _ (by omega)]
  refine ⟨by omega, (hlow o b1).trans b2, fun c hc => (hlow c (by omega)).trans (b3 c hc), fun c h1 h2 => ?_⟩
  by_cases e : c < n
  · exact (hlow c e).trans (b4 c h1 e)
  · unfold g_upT; rw [if_pos (by omega)]
theorem g_B_mna {T0 T : Nat → g_Sh} {o n n1 : Nat} {sh : g_Sh} (B : g_B T0 T o n sh) (hn : n < n1) : g_B T0 (g_upT T n n1) o n1 sh := by
  obtain ⟨b1, b2, b3, b4⟩ := B
  have hlow : ∀ c, c < n → g_upT T n n1 c = T c := fun c hc => by
    unfold g_upT
    rw [if_neg (by omega)]
  refine ⟨by omega, (hlow o b1).trans b2, fun c hc => (hlow c (by omega)).trans (b3 c hc), fun c h1 h2 => ?_⟩
  by_cases e : c < n
  · exact (hlow c e).trans (b4 c h1 e)
  · unfold g_upT; rw [if_pos (by omega)]
theorem g_B_end {T0 T : Nat → g_Sh} {o n : Nat} {sh : g_Sh} (B : g_B T0 T o n sh) (hsh : TC o = sh) : ∀ c, c < n → T c = g_upT T0 o n c := by
  obtain ⟨b1, b2, b3, b4⟩ := B
  intro c hc
  unfold g_upT
  by_cases e : o ≤ c
  · rw [if_pos ⟨e, hc⟩]
    by_cases e2 : c = o
    · subst e2; exact b2.trans hsh.symm
    · exact b4 c (by omega) hc
  · rw [if_neg (by omega)]; exact b3 c (by omega)
theorem g_B_ag {T0 T : Nat → g_Sh} {o n : Nat} {sh : g_Sh} {L : List Nat} (B : g_B T0 T o n sh) (hsh : TC o = sh) (hL : L.all (fun c => decide (o ≤ c ∧ c < n)) = true) : g_ag L n T := by
  obtain ⟨b1, b2, b3, b4⟩ := B
  intro c hc
  have h := List.all_eq_true.mp hL c (List.contains_iff_mem.mp hc)
  simp only [decide_eq_true_eq] at h
  refine ⟨h.2, ?_⟩
  by_cases e2 : c = o
  · subst e2; exact b2.trans hsh.symm
  · exact b4 c (by omega) h.2
theorem g_B_0 {T : Nat → g_Sh} {o n : Nat} {sh : g_Sh} (h : g_has n T o sh) (hn : n = o + 1) : g_B T T o n sh := ⟨h.1, h.2, fun _ _ => rfl, fun c h1 h2 => absurd h2 (by omega)⟩
theorem g_has_new {n : Nat} {T : Nat → g_Sh} {sh : g_Sh} : g_has (n + 1) (va_up T n sh) n sh := ⟨Nat.lt_succ_self n, g_up_s _ _ _⟩
def g_sR (σ : g_St) (n N : Nat) : g_St := (fun c => if n < c ∧ c ≤ n + N then fun _ => 0 else σ.1 c, σ.2)
