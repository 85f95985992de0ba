/-! new int[n][k] (over the library's two-dimensional rows) -/
def g_AO (U : State) : Prop := (Cond.arrayOver (.array .int)).before #[] U = true
theorem g_AO_warm {s U : State} (hW : s.WarmedH U.vm) (h : g_AO s) : g_AO U := Jvm.Stand.arrayOver_alikeB hW.alike h
theorem g_AO_same {s U : State} (hv : s.vm = U.vm) (h : g_AO s) : g_AO U := Jvm.Stand.arrayOver_alikeB (by rw [hv]; exact Vm.Alike.refl _) h
theorem g_AO_use {s : State} {args : Array Value} (h : g_AO s) : (Cond.arrayOver (.array .int)).before args s = true := Jvm.Stand.arrayOver_alikeB (Vm.Alike.refl _) h
theorem g_outer (c : ClassId) (N h0 : Nat) : ∀ i : Nat, Jvm.Free.Multi.outerC c N h0 i = arrV c N (fun j => va_rf (if j < i then some (h0 + 1 + j) else none))
  | 0 => by
    show ({ cls := c, slots := Array.replicate N .null, vm := .none } : Cell) = _
    rw [arrV_new]
    refine congrArg (arrV c N) (funext fun j => ?_)
    simp [va_rf]
  | i + 1 => by
    show (Jvm.Free.Multi.outerC c N h0 i).setSlot i (.ref (h0 + 1 + i)) = _
    rw [g_outer c N h0 i, arrV_store]
    refine congrArg (arrV c N) (funext fun j => ?_)
    by_cases e : j = i
    · subst e
      simp [updV, va_rf]
    · by_cases h : j < i
      · simp [updV, e, h, Nat.lt_succ_of_lt h]
      · simp [updV, e, h, show ¬ j < i + 1 by omega]
section GMN
variable {α : Type} {M : g_M} {E : g_E} {cells slots n nL : Nat} {T : Nat → g_Sh} {Qf : α → State → Prop} {cc : ByteArray} {own : String} {Ts : List Cond} {rm : Room} {pc : Nat} {lv lv' : List (Nat × Value)} {st : List Value} {σ : g_St} {o : Option α}
theorem G_mna (C : g_C (M, E, (cells, slots, n, T), nL, Qf) cc own Ts rm nL) (hAO : g_AO M.2.2.2.2.1) {index : Nat} (w : Cond.classLink own index "[[I" ∈ Ts ∧ Cond.arrayClass .int ∈ Ts) {v k : Int32} {N K : Nat} (hv : (decide (0 ≤ v) && decide (0 ≤ k) && Nat.beq v.toNatClampNeg N && Nat.beq k.toNatClampNeg K && Nat.ble (N * 4) 536870912 && Nat.ble (K * 4) 536870912) = true) (hr : (Nat.ble (cells + 1 + N) rm.cells && Nat.ble (slots + N + N * K) rm.slots) = true) (hTC : TC n = .inr (.inr (.inr (N, n + 1)))) (hTR : (List.range N).all (fun j => decide (TC (n + 1 + j) = .inr (.inl K))) = true) (d : decode cc pc = .ok (.multianewarray index 2, 4)) (h : G (M, E, (cells + 1 + N, slots + N + N * K, n + 1 + N, g_upT T n (n + 1 + N)), nL, Qf) (pc + 4) lv (.ref (E.2.1 + n) :: st) (g_sR σ n N) o) : G (M, E, (cells, slots, n, T), nL, Qf) pc lv (.int k :: .int v :: st) σ o := by
  simp only [Bool.and_eq_true, decide_eq_true_eq] at hr hv
  obtain ⟨⟨⟨⟨⟨v1, v2⟩, v3⟩, v4⟩, v5⟩, v6⟩ := hv
  have v3 := Nat.eq_of_beq_eq_true v3
  have v4 := Nat.eq_of_beq_eq_true v4
  have v5 := Nat.le_of_ble_eq_true v5
  have v6 := Nat.le_of_ble_eq_true v6
  have r1 := Nat.le_of_ble_eq_true hr.1
  have r2 := Nat.le_of_ble_eq_true hr.2
  subst v3
  subst v4
  have hTR' : ∀ j, j < v.toNatClampNeg → TC (n + 1 + j) = .inr (.inl k.toNatClampNeg) := fun j hj => by
    have := List.all_eq_true.mp hTR j (List.mem_range.mpr hj)
    simpa using this
  intro a ha H locs ls hW hl TT hTT Xs
  obtain ⟨hx, hb, hml, hown, hts, hK, hbs, hR, hcl, hsl, hnL⟩ := C
  obtain ⟨vm₁, cA, comp, -, fA, fC, hO, -, X', step⟩ := Xs.multianewarray2F hx (own := own) (ty := .int) hown (hts _ w.1) (g_AO_use hAO) (hts _ w.2) (g := F0 M.2.2.2.2.2.1 pc ls (.int k :: .int v :: st)) rfl (by rw [hb]; exact d) rfl (Int32.not_lt.mpr v1) (Int32.not_lt.mpr v2) v5 v6 (by omega) rfl rfl (by rw [hR]; show cells + _ ≤ _; omega) (by rw [hR]; show slots + _ ≤ _; omega)
  have hcA : cA = E.2.2.2.2 := by
    have h2 : M.2.2.2.2.1.vm.findClass ("[" ++ (FieldType.array .int).toString) = some E.2.2.2.2 := (hK.1.2 2 _ rfl).2
    exact Option.some.inj (fA.symm.trans h2)
  have hcI : comp = E.2.2.1 := by
    have h2 : M.2.2.2.2.1.vm.findClass ("[" ++ FieldType.int.toString) = some E.2.2.1 := (hK.1.2 0 _ rfl).2
    exact Option.some.inj (fC.symm.trans h2)
  subst hcA
  subst hcI
  generalize hF : Jvm.Free.Multi.fill (TT.setVm vm₁) E.2.2.2.2 E.2.2.1 v.toNatClampNeg k.toNatClampNeg (defaultValue .int) v.toNatClampNeg = F at X' step
  have hTh : (TT.setVm vm₁).heap = H := hTT
  obtain ⟨f1, f2, -, -⟩ := Jvm.Free.Multi.fill_facts (TT.setVm vm₁) E.2.2.2.2 E.2.2.1 v.toNatClampNeg k.toNatClampNeg (defaultValue .int) v.toNatClampNeg
  rw [hF, hTh] at f1 f2
  have hsz : H.size = E.2.1 + n := hW.1.1
  have hold : ∀ x : Nat, x < H.size → F.heap[x]? = H[x]? := fun x hx => by
    have := Jvm.Free.Multi.fill_old (TT.setVm vm₁) E.2.2.2.2 E.2.2.1 v.toNatClampNeg k.toNatClampNeg (defaultValue .int) (a := x) (by rw [hTh]; exact hx) v.toNatClampNeg
    rw [hF, hTh] at this
    exact this
  have hrow : ∀ j : Nat, j < v.toNatClampNeg → F.heap[H.size + 1 + j]? = some (vp_cell E.2.2.1 (k.toNatClampNeg, .inl (fun _ => 0))) := fun j hj => by
    have := Jvm.Free.Multi.fill_inner (TT.setVm vm₁) E.2.2.2.2 E.2.2.1 v.toNatClampNeg k.toNatClampNeg (defaultValue .int) v.toNatClampNeg j hj
    rw [hF, hTh] at this
    rw [this, vp_cell_i]
    show some ({ cls := E.2.2.1, slots := Array.replicate k.toNatClampNeg (.int 0), vm := .none } : Cell) = _
    rw [arrV_new]
  rw [g_outer] at f2
  have hWd : g_Wd E (n + 1 + v.toNatClampNeg) (g_upT T n (n + 1 + v.toNatClampNeg)) (g_sR σ n v.toNatClampNeg) F.heap := by
    refine ⟨by rw [f1, hsz]; omega, fun c x hx => ?_⟩
    have hc := (g_wl_get hx).1
    rw [g_wl_at ⟨hc, rfl⟩] at hx
    cases hx
    by_cases e1 : c < n
    · have eT : g_upT T n (n + 1 + v.toNatClampNeg) c = T c := by unfold g_upT; rw [if_neg (by omega)]
      have eS : (g_sR σ n v.toNatClampNeg).1 c = σ.1 c := by unfold g_sR; dsimp only; rw [if_neg (by omega)]
      rw [eT, eS]
      exact (hW.1.2 c _ (g_wl_at ⟨e1, rfl⟩)).kept (hold _ (by rw [hsz]; show E.2.1 + c < _; omega))
    · have eT : g_upT T n (n + 1 + v.toNatClampNeg) c = TC c := by unfold g_upT; rw [if_pos (by omega)]
      rw [eT]
      by_cases e2 : c = n
      · subst e2
        rw [hTC]
        show F.heap[E.2.1 + c]? = some (vp_cell E.2.2.2.2 (v.toNatClampNeg, .inr (.inr (.inr (.inr (fun j => if j < v.toNatClampNeg then some (E.2.1 + (c + 1 + j)) else none))))))
        rw [vp_cell_q, ← hsz, f2]
        refine congrArg some (congrArg (arrV E.2.2.2.2 v.toNatClampNeg) (funext fun j => ?_))
        by_cases hj : j < v.toNatClampNeg
        · rw [if_pos hj, if_pos hj, hsz]
          congr 2
          omega
        · rw [if_neg hj, if_neg hj]
      · obtain ⟨j, rfl⟩ : ∃ j, c = n + 1 + j := ⟨c - n - 1, by omega⟩
        have hj : j < v.toNatClampNeg := by omega
        rw [hTR' j hj]
        have eS : (g_sR σ n v.toNatClampNeg).1 (n + 1 + j) = fun _ => 0 := by unfold g_sR; dsimp only; rw [if_pos (by omega)]
        rw [eS]
        show F.heap[E.2.1 + (n + 1 + j)]? = some (vp_cell E.2.2.1 (k.toNatClampNeg, .inl (fun _ => 0)))
        have e9 : E.2.1 + (n + 1 + j) = H.size + 1 + j := by omega
        rw [e9]
        exact hrow j hj
  have hS2 : va_S (fun q => E.2.1 ≤ q) M.2.2.2.2.1.heap F.heap locs := g_S_grow hW.2 (by omega) hold
  obtain ⟨t, a1, b1⟩ := h a ha F.heap locs ls ⟨hWd, hS2⟩ hl F rfl X'
  refine ⟨t, step t ?_, b1⟩
  have e : TT.heap.size = E.2.1 + n := by rw [hTT]; exact hsz
  rw [e]
  exact a1
end GMN
