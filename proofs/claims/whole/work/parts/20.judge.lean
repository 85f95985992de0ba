/-! worlds by cell number: cells b, b+1 .. of the heap; a shape says what each is, a state g_St what the ints and longs in it are -/
abbrev g_St : Type := (Nat → Nat → Int32) × (Nat → Nat → Int64)
def g_sI (σ : g_St) (c k : Nat) (v : Int32) : g_St := (va_up σ.1 c (upd (σ.1 c) k v), σ.2)
def g_sA (σ : g_St) (c : Nat) (f : Nat → Int32) : g_St := (va_up σ.1 c f, σ.2)
def g_sL (σ : g_St) (c k : Nat) (v : Int64) : g_St := (σ.1, va_up σ.2 c (vp_updL (σ.2 c) k v))
def g_lt {α β : Type} (v : α) (k : α → β) : β := k v
abbrev g_in (i : Int32) (n : Nat) : Prop := 0 ≤ i.toInt ∧ i.toInt < (n : Int)
abbrev g_b01 (v : Int32) : Prop := v = 0 ∨ v = 1
abbrev g_Sh : Type := (Nat × List (Option (Option Nat))) ⊕ (Nat ⊕ (Nat ⊕ (Nat × Nat)))
def g_fv (b : Nat) (f : Nat → Int32) (k : Nat) (d : Option (Option Nat)) : Value := match d with
  | none => .int (f k)
  | some none => .null
  | some (some r) => .ref (b + r)
def g_fs (b : Nat) (f : Nat → Int32) (ds : List (Option (Option Nat))) : List Value := ds.zipIdx.map (fun q => g_fv b f q.2 q.1)
abbrev g_E : Type := va_G × Nat × ClassId × ClassId × ClassId
def g_ce (E : g_E) (sh : g_Sh) (f : Nat → Int32) (g : Nat → Int64) : va_E := match sh with
  | .inl (ci, ds) => .inr (ci, g_fs E.2.1 f ds)
  | .inr (.inl n) => .inl (E.2.2.1, n, .inl f)
  | .inr (.inr (.inl n)) => .inl (E.2.2.2.1, n, .inr (.inl g))
  | .inr (.inr (.inr (n, r))) => .inl (E.2.2.2.2, n, .inr (.inr (.inr (.inr (fun j => if j < n then some (E.2.1 + (r + j)) else none)))))
def g_wl (E : g_E) (n : Nat) (T : Nat → g_Sh) (σ : g_St) : va_W := (List.range n).map (fun c => (E.2.1 + c, g_ce E (T c) (σ.1 c) (σ.2 c)))
abbrev g_has (n : Nat) (T : Nat → g_Sh) (c : Nat) (sh : g_Sh) : Prop := c < n ∧ T c = sh
theorem g_up_id {α : Type} (f : Nat → α) (c : Nat) : va_up f c (f c) = f := by
  funext j
  by_cases h : j = c
  · subst h; simp [va_up]
  · simp [va_up, h]
theorem g_up_s {α : Type} (f : Nat → α) (c : Nat) (v : α) : va_up f c v c = v := by simp [va_up]
theorem g_up_n {α : Type} (f : Nat → α) {c j : Nat} (v : α) (h : j ≠ c) : va_up f c v j = f j := by simp [va_up, h]
theorem g_fs_at (b : Nat) (f : Nat → Int32) (ds : List (Option (Option Nat))) (k : Nat) : (g_fs b f ds)[k]? = (ds[k]?).map (g_fv b f k) := by
  simp only [g_fs, List.getElem?_map, List.getElem?_zipIdx, Option.map_map]
  cases ds[k]? <;> simp
theorem g_fs_len (b : Nat) (f : Nat → Int32) (ds : List (Option (Option Nat))) : (g_fs b f ds).length = ds.length := by simp [g_fs]
theorem g_fs_set (b : Nat) (f : Nat → Int32) (ds : List (Option (Option Nat))) (k : Nat) (v : Int32) (h : ds[k]? = some none) : (g_fs b f ds).set k (.int v) = g_fs b (upd f k v) ds := by
  apply List.ext_getElem?
  intro j
  rw [List.getElem?_set, g_fs_at, g_fs_at, g_fs_len]
  by_cases hj : k = j
  · subst hj
    have hl : k < ds.length := (List.getElem?_eq_some_iff.mp h).1
    rw [h]
    simp [hl, g_fv, upd]
  · simp only [hj, if_false]
    cases hd : ds[j]? with
    | none => simp
    | some d =>
      simp only [Option.map_some]
      congr 1
      match d with
      | none => simp [g_fv, upd, Ne.symm hj]
      | some none => rfl
      | some (some r) => rfl
theorem g_fs_setR (b : Nat) (f : Nat → Int32) (ds : List (Option (Option Nat))) (k r : Nat) (h : k < ds.length) : (g_fs b f ds).set k (.ref (b + r)) = g_fs b f (ds.set k (some (some r))) := by
  apply List.ext_getElem?
  intro j
  rw [List.getElem?_set, g_fs_at, g_fs_at, g_fs_len, List.getElem?_set]
  by_cases hj : k = j
  · subst hj
    simp [h, g_fv]
  · simp [hj]
theorem g_wl_at {E : g_E} {n : Nat} {T : Nat → g_Sh} {σ : g_St} {c : Nat} {sh : g_Sh} (h : g_has n T c sh) : (g_wl E n T σ)[c]? = some (E.2.1 + c, g_ce E sh (σ.1 c) (σ.2 c)) := by
  obtain ⟨h1, h2⟩ := h
  unfold g_wl
  rw [List.getElem?_map, List.getElem?_range h1, ← h2]
  rfl
theorem g_wl_len {E : g_E} {n : Nat} {T : Nat → g_Sh} {σ : g_St} : (g_wl E n T σ).length = n := by simp [g_wl]
theorem g_wl_get {E : g_E} {n : Nat} {T : Nat → g_Sh} {σ : g_St} {k : Nat} {q : Nat × va_E} (h : (g_wl E n T σ)[k]? = some q) : k < n ∧ q.1 = E.2.1 + k := by
  have hl : k < n := by have := (List.getElem?_eq_some_iff.mp h).1; rwa [g_wl_len] at this
  rw [g_wl_at ⟨hl, rfl⟩] at h
  exact ⟨hl, by cases h; rfl⟩
theorem g_D (E : g_E) (n : Nat) (T : Nat → g_Sh) (σ : g_St) : va_D (fun q => E.2.1 ≤ q) (g_wl E n T σ) := by
  refine ⟨fun i j p q hi hj hpq => ?_, fun k q hq => ?_⟩
  · have h1 := (g_wl_get hi).2
    have h2 := (g_wl_get hj).2
    omega
  · have h1 := (g_wl_get hq).2
    show E.2.1 ≤ q.1
    omega
theorem g_set {E : g_E} {n : Nat} {T : Nat → g_Sh} {σ : g_St} {c : Nat} {sh : g_Sh} (h : g_has n T c sh) (f : Nat → Int32) (g : Nat → Int64) : (g_wl E n T σ).set c (E.2.1 + c, g_ce E sh f g) = g_wl E n T (va_up σ.1 c f, va_up σ.2 c g) := by
  apply List.ext_getElem?
  intro j
  rw [List.getElem?_set, g_wl_len]
  by_cases hj : c = j
  · subst hj
    rw [if_pos rfl, if_pos h.1, g_wl_at h]
    simp [g_up_s]
  · rw [if_neg hj]
    by_cases hl : j < n
    · rw [g_wl_at ⟨hl, rfl⟩, g_wl_at ⟨hl, rfl⟩]
      dsimp only
      rw [g_up_n _ _ (Ne.symm hj), g_up_n _ _ (Ne.symm hj)]
    · rw [List.getElem?_eq_none (by rw [g_wl_len]; omega), List.getElem?_eq_none (by rw [g_wl_len]; omega)]
theorem g_set1 {E : g_E} {n : Nat} {T : Nat → g_Sh} {σ : g_St} {c : Nat} {sh : g_Sh} (h : g_has n T c sh) (f : Nat → Int32) : (g_wl E n T σ).set c (E.2.1 + c, g_ce E sh f (σ.2 c)) = g_wl E n T (g_sA σ c f) := by
  rw [g_set h f (σ.2 c), g_up_id]; rfl
theorem g_set2 {E : g_E} {n : Nat} {T : Nat → g_Sh} {σ : g_St} {c : Nat} {sh : g_Sh} (h : g_has n T c sh) (k : Nat) (v : Int64) : (g_wl E n T σ).set c (E.2.1 + c, g_ce E sh (σ.1 c) (vp_updL (σ.2 c) k v)) = g_wl E n T (g_sL σ c k v) := by
  rw [g_set h, g_up_id]; rfl
theorem g_in_vp {i : Int32} {n : Nat} (h : g_in i n) : vp_in i n := vp_in_iff.mpr h
/-- the tables: classes, arrays, links of nest mates -/
def g_nest : List Cond := [.methodLinkNest "BirthdayLot$Book" 27 yX10_holds "BirthdayLot", .methodLinkNest "BirthdayLot$Book" 51 yX10_older "BirthdayLot", .methodLinkNest "BirthdayLot$Candles" 59 yX10_holds "BirthdayLot", .methodLinkNest "BirthdayLot$Candles" 83 yX10_older "BirthdayLot", .methodLinkNest "BirthdayLot$Chances" 80 yX10_holds "BirthdayLot", .methodLinkNest "BirthdayLot$Images" 26 yX10_holds "BirthdayLot", .methodLinkNest "BirthdayLot$Moment" 47 yX10_holds "BirthdayLot", .methodLinkNest "BirthdayLot$Moment" 51 yX10_older "BirthdayLot", .methodLinkNest "BirthdayLot$Rules" 41 yX10_holds "BirthdayLot", .methodLinkNest "BirthdayLot$Weddings" 59 yX10_holds "BirthdayLot"]
def g_K (E : g_E) (U : State) : Prop := va_K E.1 vwCl [(E.2.2.1, .int), (E.2.2.2.1, .long), (E.2.2.2.2, .array .int)] U ∧ ∀ w ∈ g_nest, va_Nw w U
theorem g_nest_warm {s U : State} (hW : s.WarmedH U.vm) : ∀ w ∈ g_nest, va_Nw w s → va_Nw w U := by
  simp only [g_nest, List.forall_mem_cons]
  exact ⟨va_Nw.warmM hW, va_Nw.warmM hW, va_Nw.warmM hW, va_Nw.warmM hW, va_Nw.warmM hW, va_Nw.warmM hW, va_Nw.warmM hW, va_Nw.warmM hW, va_Nw.warmM hW, va_Nw.warmM hW, fun _ h => absurd h List.not_mem_nil⟩
theorem g_K_warm {E : g_E} {s U : State} (hW : s.WarmedH U.vm) (h : g_K E s) : g_K E U := ⟨va_K.moved hW.alike h.1, fun w hw => g_nest_warm hW w hw (h.2 w hw)⟩
theorem g_nest_tab : ∀ w ∈ g_nest, w.onTables = true := by decide +kernel
theorem g_K_same {E : g_E} {s U : State} (hv : s.vm = U.vm) (h : g_K E s) : g_K E U := ⟨va_K.moved (by rw [hv]; exact Vm.Alike.refl _) h.1, fun w hw => va_Nw.same (g_nest_tab w hw) hv (h.2 w hw)⟩
def g_Wd (E : g_E) (n : Nat) (T : Nat → g_Sh) (σ : g_St) (H : Heap) : Prop := H.size = E.2.1 + n ∧ va_P E.1 vwCl (g_wl E n T σ) H
abbrev g_M : Type := Program × Launch × Env × Room × State × MethodId × Array Value × List Frame × Method × Code
abbrev g_Y : Type := Nat × Nat × Nat × (Nat → g_Sh)
abbrev g_X (α : Type) : Type := g_M × g_E × g_Y × Nat × (α → State → Prop)
abbrev g_b {α : Type} (X : g_X α) : Nat := X.2.1.2.1
abbrev g_n {α : Type} (X : g_X α) : Nat := X.2.2.1.2.2.1
abbrev g_T {α : Type} (X : g_X α) : Nat → g_Sh := X.2.2.1.2.2.2
abbrev g_s {α : Type} (X : g_X α) : State := X.1.2.2.2.2.1
def g_WS {α : Type} (X : g_X α) (σ : g_St) (H : Heap) (locs : List Loc) : Prop := g_Wd X.2.1 (g_n X) (g_T X) σ H ∧ va_S (fun q => g_b X ≤ q) (g_s X).heap H locs
def g_W {α : Type} (X : g_X α) (a : α) (H : Heap) (locs : List Loc) (g : JFrame) : Prop := W X.1.1 X.1.2.1 X.1.2.2.1 X.1.2.2.2.1 X.1.2.2.2.2.1 X.1.2.2.2.2.2.1 X.1.2.2.2.2.2.2.1 X.1.2.2.2.2.2.2.2.1 X.1.2.2.2.2.2.2.2.2.1 X.1.2.2.2.2.2.2.2.2.2 H locs X.2.2.1.1 X.2.2.1.2.1 (X.2.2.2.2 a) g
def G {α : Type} (X : g_X α) (pc : Nat) (lv : List (Nat × Value)) (st : List Value) (σ : g_St) (o : Option α) : Prop :=
  ∀ a : α, o = some a → ∀ (H : Heap) (locs : List Loc) (ls : Array Slot), g_WS X σ H locs → lv_has ls X.2.2.2.1 lv → g_W X a H locs (F0 X.1.2.2.2.2.2.1 pc ls st)
def g_C {α : Type} (X : g_X α) (cc : ByteArray) (own : String) (Ts : List Cond) (rm : Room) (nL : Nat) : Prop :=
  X.1.1.tables.exec = Jvm.exec ∧ X.1.2.2.2.2.2.2.2.2.2.code = cc ∧ X.1.2.2.2.2.2.2.2.2.2.maxLocals = X.2.2.2.1 ∧ (g_s X).vm.findClass own = some X.1.2.2.2.2.2.1.cls ∧ (∀ w ∈ Ts, w.before X.1.2.2.2.2.2.2.1 (g_s X) = true) ∧ g_K X.2.1 (g_s X) ∧ g_b X ≤ (g_s X).heap.size ∧ X.1.2.2.2.1 = rm ∧ X.2.2.1.1 ≤ rm.cells ∧ X.2.2.1.2.1 ≤ rm.slots ∧ X.2.2.2.1 = nL
section GR
variable {α : Type} {X : g_X α} {cc : ByteArray} {own : String} {Ts : List Cond} {rm : Room} {nL : Nat} {pc : Nat} {lv lv' : List (Nat × Value)} {st : List Value} {σ : g_St} {o o1 o2 : Option α}
theorem g_blt {a b : Nat} (h : Nat.blt a b = true) : a < b := Nat.le_of_ble_eq_true h
theorem G_ltv {v : Int32} {k : Int32 → Option α} (f : Int32 → List (Nat × Value)) (h : ∀ u : Int32, G X pc (f u) st σ (k u)) : G X pc (f v) st σ (g_lt v k) := h v
theorem G_none : G X pc lv st σ none := fun _ h => by cases h
theorem G_sub (h : G X pc lv' st σ o) (ks : List Nat) (hl : lv_pick lv ks = lv') : G X pc lv st σ o := fun a ha H locs ls hW h1 => h a ha H locs ls hW (lv_sub h1 ks hl)
theorem G_lt {β : Type} {v : β} {k : β → Option α} (h : G X pc lv st σ (k v)) : G X pc lv st σ (g_lt v k) := h
theorem G_lti {v : Int32} {k : Int32 → Option α} (h : ∀ u : Int32, G X pc lv (.int u :: st) σ (k u)) : G X pc lv (.int v :: st) σ (g_lt v k) := h v
theorem G_ltl {v : Int64} {k : Int64 → Option α} (h : ∀ u : Int64, G X pc lv (.long u :: st) σ (k u)) : G X pc lv (.long v :: st) σ (g_lt v k) := h v
theorem G_lts {k : g_St → Option α} (h : ∀ τ : g_St, G X pc lv st τ (k τ)) : G X pc lv st σ (g_lt σ k) := h σ
theorem G_ite {c : Prop} {hd : Decidable c} (h1 : c → G X pc lv st σ o1) (h2 : ¬ c → G X pc lv st σ o2) : G X pc lv st σ (@ite _ c hd o1 o2) := by
  by_cases h : c
  · rw [if_pos h]; exact h1 h
  · rw [if_neg h]; exact h2 h
theorem G_chk {c : Prop} {hd : Decidable c} (h1 : c → G X pc lv st σ o1) : G X pc lv st σ (@ite _ c hd o1 none) := G_ite h1 (fun _ => G_none)
theorem G_chn {c : Prop} {hd : Decidable c} (h1 : ¬ c → G X pc lv st σ o1) : G X pc lv st σ (@ite _ c hd none o1) := G_ite (fun _ => G_none) h1

theorem G_iconst (C : g_C X cc own Ts rm nL) {n : Int} {v : Int32} (d : decode cc pc = .ok (.iconst n, 1)) (hv : Int32.ofInt n = v) (h : G X (pc + 1) lv (.int v :: st) σ o) : G X pc lv (st) σ o :=
  fun a ha H locs ls hW hl => lv_iconst C.1 C.2.1 d hv (h a ha H locs ls hW hl)
theorem G_bipush (C : g_C X cc own Ts rm nL) {n : Int} {v : Int32} (d : decode cc pc = .ok (.bipush n, 2)) (hv : (Int8.ofInt n).toInt32 = v) (h : G X (pc + 2) lv (.int v :: st) σ o) : G X pc lv (st) σ o :=
  fun a ha H locs ls hW hl => lv_bipush C.1 C.2.1 d hv (h a ha H locs ls hW hl)
theorem G_sipush (C : g_C X cc own Ts rm nL) {n : Int} {v : Int32} (d : decode cc pc = .ok (.sipush n, 3)) (hv : (Int16.ofInt n).toInt32 = v) (h : G X (pc + 3) lv (.int v :: st) σ o) : G X pc lv (st) σ o :=
  fun a ha H locs ls hW hl => lv_sipush C.1 C.2.1 d hv (h a ha H locs ls hW hl)
theorem G_lconst (C : g_C X cc own Ts rm nL) {n : Fin 2} {v : Int64} (d : decode cc pc = .ok (.lconst n, 1)) (hv : Int64.ofNat (n : Nat) = v) (h : G X (pc + 1) lv (.long v :: st) σ o) : G X pc lv (st) σ o :=
  fun a ha H locs ls hW hl => lv_lconst C.1 C.2.1 d hv (h a ha H locs ls hW hl)
theorem G_ldc (C : g_C X cc own Ts rm nL) {index : Nat} {v : Int32} (d : decode cc pc = .ok (.ldc index, 2)) (hv : Cond.constant own index v ∈ Ts) (h : G X (pc + 2) lv (.int v :: st) σ o) : G X pc lv (st) σ o :=
  fun a ha H locs ls hW hl => lv_ldc C.1 C.2.1 C.2.2.2.1 (C.2.2.2.2.1 _ hv) d (h a ha H locs ls hW hl)
theorem G_ldcw (C : g_C X cc own Ts rm nL) {index : Nat} {v : Int32} (d : decode cc pc = .ok (.ldc_w index, 3)) (hv : Cond.constant own index v ∈ Ts) (h : G X (pc + 3) lv (.int v :: st) σ o) : G X pc lv (st) σ o :=
  fun a ha H locs ls hW hl => lv_ldcw C.1 C.2.1 C.2.2.2.1 (C.2.2.2.2.1 _ hv) d (h a ha H locs ls hW hl)
theorem G_ldc2 (C : g_C X cc own Ts rm nL) {index : Nat} {v : Int64} (d : decode cc pc = .ok (.ldc2_w index, 3)) (hv : Cond.constantLong own index v ∈ Ts) (h : G X (pc + 3) lv (.long v :: st) σ o) : G X pc lv (st) σ o :=
  fun a ha H locs ls hW hl => lv_ldc2 C.1 C.2.1 C.2.2.2.1 (C.2.2.2.2.1 _ hv) d (h a ha H locs ls hW hl)
theorem G_iload_n (C : g_C X cc own Ts rm nL) {kf : Fin 4} {i : Nat} {x : Int32} (d : decode cc pc = .ok (.iload_n kf, 1)) (hi : (kf : Nat) = i) (k : Nat) (hk : lv[k]? = some (i, .int x)) (h : G X (pc + 1) lv (.int x :: st) σ o) : G X pc lv (st) σ o :=
  fun a ha H locs ls hW hl => lv_iload_n C.1 C.2.1 d hi (lv_at hl k hk) (h a ha H locs ls hW hl)
theorem G_iload (C : g_C X cc own Ts rm nL) {i : Nat} {x : Int32} (d : decode cc pc = .ok (.iload i, 2)) (k : Nat) (hk : lv[k]? = some (i, .int x)) (h : G X (pc + 2) lv (.int x :: st) σ o) : G X pc lv (st) σ o :=
  fun a ha H locs ls hW hl => lv_iload C.1 C.2.1 d (lv_at hl k hk) (h a ha H locs ls hW hl)
theorem G_istore_n (C : g_C X cc own Ts rm nL) {kf : Fin 4} {i : Nat} {x : Int32} (d : decode cc pc = .ok (.istore_n kf, 1)) (hi : (kf : Nat) = i) (hn : Nat.blt (i) nL = true) (hl : (i, Value.int x) :: lv.filter (fun q => !(q.1 == i) && !(q.1 + 1 == i && q.2.category == 2)) = lv') (h : G X (pc + 1) lv' st σ o) : G X pc lv (.int x :: st) σ o :=
  fun a ha H locs ls hW h1 => lv_istore_n C.1 C.2.1 d hi h1 (by rw [C.2.2.2.2.2.2.2.2.2.2]; exact g_blt hn) hl (fun ls' h2 => h a ha H locs ls' hW h2)
theorem G_istore (C : g_C X cc own Ts rm nL) {i : Nat} {x : Int32} (d : decode cc pc = .ok (.istore i, 2)) (hn : Nat.blt (i) nL = true) (hl : (i, Value.int x) :: lv.filter (fun q => !(q.1 == i) && !(q.1 + 1 == i && q.2.category == 2)) = lv') (h : G X (pc + 2) lv' st σ o) : G X pc lv (.int x :: st) σ o :=
  fun a ha H locs ls hW h1 => lv_istore C.1 C.2.1 d h1 (by rw [C.2.2.2.2.2.2.2.2.2.2]; exact g_blt hn) hl (fun ls' h2 => h a ha H locs ls' hW h2)
theorem G_lload_n (C : g_C X cc own Ts rm nL) {kf : Fin 4} {i : Nat} {x : Int64} (d : decode cc pc = .ok (.lload_n kf, 1)) (hi : (kf : Nat) = i) (k : Nat) (hk : lv[k]? = some (i, .long x)) (h : G X (pc + 1) lv (.long x :: st) σ o) : G X pc lv (st) σ o :=
  fun a ha H locs ls hW hl => lv_lload_n C.1 C.2.1 d hi (lv_at hl k hk) (h a ha H locs ls hW hl)
theorem G_lload (C : g_C X cc own Ts rm nL) {i : Nat} {x : Int64} (d : decode cc pc = .ok (.lload i, 2)) (k : Nat) (hk : lv[k]? = some (i, .long x)) (h : G X (pc + 2) lv (.long x :: st) σ o) : G X pc lv (st) σ o :=
  fun a ha H locs ls hW hl => lv_lload C.1 C.2.1 d (lv_at hl k hk) (h a ha H locs ls hW hl)
theorem G_lstore_n (C : g_C X cc own Ts rm nL) {kf : Fin 4} {i : Nat} {x : Int64} (d : decode cc pc = .ok (.lstore_n kf, 1)) (hi : (kf : Nat) = i) (hn : Nat.blt (i + 1) nL = true) (hl : (i, Value.long x) :: lv.filter (fun q => !(q.1 == i) && (!(q.1 == i + 1) && !(q.1 + 1 == i && q.2.category == 2))) = lv') (h : G X (pc + 1) lv' st σ o) : G X pc lv (.long x :: st) σ o :=
  fun a ha H locs ls hW h1 => lv_lstore_n C.1 C.2.1 d hi h1 (by rw [C.2.2.2.2.2.2.2.2.2.2]; exact g_blt hn) hl (fun ls' h2 => h a ha H locs ls' hW h2)
theorem G_lstore (C : g_C X cc own Ts rm nL) {i : Nat} {x : Int64} (d : decode cc pc = .ok (.lstore i, 2)) (hn : Nat.blt (i + 1) nL = true) (hl : (i, Value.long x) :: lv.filter (fun q => !(q.1 == i) && (!(q.1 == i + 1) && !(q.1 + 1 == i && q.2.category == 2))) = lv') (h : G X (pc + 2) lv' st σ o) : G X pc lv (.long x :: st) σ o :=
  fun a ha H locs ls hW h1 => lv_lstore C.1 C.2.1 d h1 (by rw [C.2.2.2.2.2.2.2.2.2.2]; exact g_blt hn) hl (fun ls' h2 => h a ha H locs ls' hW h2)
theorem G_aload_n (C : g_C X cc own Ts rm nL) {kf : Fin 4} {i : Nat} {x : Nat} (d : decode cc pc = .ok (.aload_n kf, 1)) (hi : (kf : Nat) = i) (k : Nat) (hk : lv[k]? = some (i, .ref x)) (h : G X (pc + 1) lv (.ref x :: st) σ o) : G X pc lv (st) σ o :=
  fun a ha H locs ls hW hl => lv_aload_n C.1 C.2.1 d hi (lv_at hl k hk) (h a ha H locs ls hW hl)
theorem G_aload (C : g_C X cc own Ts rm nL) {i : Nat} {x : Nat} (d : decode cc pc = .ok (.aload i, 2)) (k : Nat) (hk : lv[k]? = some (i, .ref x)) (h : G X (pc + 2) lv (.ref x :: st) σ o) : G X pc lv (st) σ o :=
  fun a ha H locs ls hW hl => lv_aload C.1 C.2.1 d (lv_at hl k hk) (h a ha H locs ls hW hl)
theorem G_astore_n (C : g_C X cc own Ts rm nL) {kf : Fin 4} {i : Nat} {x : Nat} (d : decode cc pc = .ok (.astore_n kf, 1)) (hi : (kf : Nat) = i) (hn : Nat.blt (i) nL = true) (hl : (i, Value.ref x) :: lv.filter (fun q => !(q.1 == i) && !(q.1 + 1 == i && q.2.category == 2)) = lv') (h : G X (pc + 1) lv' st σ o) : G X pc lv (.ref x :: st) σ o :=
  fun a ha H locs ls hW h1 => lv_astore_n C.1 C.2.1 d hi h1 (by rw [C.2.2.2.2.2.2.2.2.2.2]; exact g_blt hn) hl (fun ls' h2 => h a ha H locs ls' hW h2)
theorem G_astore (C : g_C X cc own Ts rm nL) {i : Nat} {x : Nat} (d : decode cc pc = .ok (.astore i, 2)) (hn : Nat.blt (i) nL = true) (hl : (i, Value.ref x) :: lv.filter (fun q => !(q.1 == i) && !(q.1 + 1 == i && q.2.category == 2)) = lv') (h : G X (pc + 2) lv' st σ o) : G X pc lv (.ref x :: st) σ o :=
  fun a ha H locs ls hW h1 => lv_astore C.1 C.2.1 d h1 (by rw [C.2.2.2.2.2.2.2.2.2.2]; exact g_blt hn) hl (fun ls' h2 => h a ha H locs ls' hW h2)
theorem G_iinc (C : g_C X cc own Ts rm nL) {i : Nat} {n : Int} {x v : Int32} (d : decode cc pc = .ok (.iinc i n, 3)) (k : Nat) (hk : lv[k]? = some (i, .int x)) (hv : x + Int32.ofInt n = v) (hn : Nat.blt i nL = true) (hl : (i, Value.int v) :: lv.filter (fun q => !(q.1 == i) && !(q.1 + 1 == i && q.2.category == 2)) = lv') (h : G X (pc + 3) lv' st σ o) : G X pc lv st σ o :=
  fun a ha H locs ls hW h1 => lv_iinc C.1 C.2.1 d h1 hk hv (by rw [C.2.2.2.2.2.2.2.2.2.2]; exact g_blt hn) hl (fun ls' h2 => h a ha H locs ls' hW h2)
theorem G_iadd (C : g_C X cc own Ts rm nL) {x y : Int32} (d : decode cc pc = .ok (.iadd, 1))  (h : G X (pc + 1) lv (.int (x + y) :: st) σ o) : G X pc lv (.int y :: .int x :: st) σ o :=
  fun a ha H locs ls hW hl => lv_iadd C.1 C.2.1 d (h a ha H locs ls hW hl)
theorem G_isub (C : g_C X cc own Ts rm nL) {x y : Int32} (d : decode cc pc = .ok (.isub, 1))  (h : G X (pc + 1) lv (.int (x - y) :: st) σ o) : G X pc lv (.int y :: .int x :: st) σ o :=
  fun a ha H locs ls hW hl => lv_isub C.1 C.2.1 d (h a ha H locs ls hW hl)
theorem G_imul (C : g_C X cc own Ts rm nL) {x y : Int32} (d : decode cc pc = .ok (.imul, 1))  (h : G X (pc + 1) lv (.int (x * y) :: st) σ o) : G X pc lv (.int y :: .int x :: st) σ o :=
  fun a ha H locs ls hW hl => lv_imul C.1 C.2.1 d (h a ha H locs ls hW hl)
theorem G_iand (C : g_C X cc own Ts rm nL) {x y : Int32} (d : decode cc pc = .ok (.iand, 1))  (h : G X (pc + 1) lv (.int (x &&& y) :: st) σ o) : G X pc lv (.int y :: .int x :: st) σ o :=
  fun a ha H locs ls hW hl => lv_iand C.1 C.2.1 d (h a ha H locs ls hW hl)
theorem G_ior (C : g_C X cc own Ts rm nL) {x y : Int32} (d : decode cc pc = .ok (.ior, 1))  (h : G X (pc + 1) lv (.int (x ||| y) :: st) σ o) : G X pc lv (.int y :: .int x :: st) σ o :=
  fun a ha H locs ls hW hl => lv_ior C.1 C.2.1 d (h a ha H locs ls hW hl)
theorem G_ixor (C : g_C X cc own Ts rm nL) {x y : Int32} (d : decode cc pc = .ok (.ixor, 1))  (h : G X (pc + 1) lv (.int (x ^^^ y) :: st) σ o) : G X pc lv (.int y :: .int x :: st) σ o :=
  fun a ha H locs ls hW hl => lv_ixor C.1 C.2.1 d (h a ha H locs ls hW hl)
theorem G_ishl (C : g_C X cc own Ts rm nL) {x y : Int32} (d : decode cc pc = .ok (.ishl, 1))  (h : G X (pc + 1) lv (.int (x <<< (y &&& 31)) :: st) σ o) : G X pc lv (.int y :: .int x :: st) σ o :=
  fun a ha H locs ls hW hl => lv_ishl C.1 C.2.1 d (h a ha H locs ls hW hl)
theorem G_ishr (C : g_C X cc own Ts rm nL) {x y : Int32} (d : decode cc pc = .ok (.ishr, 1))  (h : G X (pc + 1) lv (.int (x >>> (y &&& 31)) :: st) σ o) : G X pc lv (.int y :: .int x :: st) σ o :=
  fun a ha H locs ls hW hl => lv_ishr C.1 C.2.1 d (h a ha H locs ls hW hl)
theorem G_idiv (C : g_C X cc own Ts rm nL) {x y : Int32} (d : decode cc pc = .ok (.idiv, 1)) (hy : ¬ y = 0) (h : G X (pc + 1) lv (.int (x / y) :: st) σ o) : G X pc lv (.int y :: .int x :: st) σ o :=
  fun a ha H locs ls hW hl => lv_idiv C.1 C.2.1 d hy (h a ha H locs ls hW hl)
theorem G_irem (C : g_C X cc own Ts rm nL) {x y : Int32} (d : decode cc pc = .ok (.irem, 1)) (hy : ¬ y = 0) (h : G X (pc + 1) lv (.int (x - x / y * y) :: st) σ o) : G X pc lv (.int y :: .int x :: st) σ o :=
  fun a ha H locs ls hW hl => lv_irem C.1 C.2.1 d hy (h a ha H locs ls hW hl)
theorem G_ineg (C : g_C X cc own Ts rm nL) {x : Int32} (d : decode cc pc = .ok (.ineg, 1))  (h : G X (pc + 1) lv (.int (-x) :: st) σ o) : G X pc lv (.int x :: st) σ o :=
  fun a ha H locs ls hW hl => lv_ineg C.1 C.2.1 d (h a ha H locs ls hW hl)
theorem G_ladd (C : g_C X cc own Ts rm nL) {x y : Int64} (d : decode cc pc = .ok (.ladd, 1))  (h : G X (pc + 1) lv (.long (x + y) :: st) σ o) : G X pc lv (.long y :: .long x :: st) σ o :=
  fun a ha H locs ls hW hl => lv_ladd C.1 C.2.1 d (h a ha H locs ls hW hl)
theorem G_lsub (C : g_C X cc own Ts rm nL) {x y : Int64} (d : decode cc pc = .ok (.lsub, 1))  (h : G X (pc + 1) lv (.long (x - y) :: st) σ o) : G X pc lv (.long y :: .long x :: st) σ o :=
  fun a ha H locs ls hW hl => lv_lsub C.1 C.2.1 d (h a ha H locs ls hW hl)
theorem G_lmul (C : g_C X cc own Ts rm nL) {x y : Int64} (d : decode cc pc = .ok (.lmul, 1))  (h : G X (pc + 1) lv (.long (x * y) :: st) σ o) : G X pc lv (.long y :: .long x :: st) σ o :=
  fun a ha H locs ls hW hl => lv_lmul C.1 C.2.1 d (h a ha H locs ls hW hl)
theorem G_land (C : g_C X cc own Ts rm nL) {x y : Int64} (d : decode cc pc = .ok (.land, 1))  (h : G X (pc + 1) lv (.long (x &&& y) :: st) σ o) : G X pc lv (.long y :: .long x :: st) σ o :=
  fun a ha H locs ls hW hl => lv_land C.1 C.2.1 d (h a ha H locs ls hW hl)
theorem G_ldiv (C : g_C X cc own Ts rm nL) {x y : Int64} (d : decode cc pc = .ok (.ldiv, 1)) (hy : ¬ y = 0) (h : G X (pc + 1) lv (.long (x / y) :: st) σ o) : G X pc lv (.long y :: .long x :: st) σ o :=
  fun a ha H locs ls hW hl => lv_ldiv C.1 C.2.1 d hy (h a ha H locs ls hW hl)
theorem G_lrem (C : g_C X cc own Ts rm nL) {x y : Int64} (d : decode cc pc = .ok (.lrem, 1)) (hy : ¬ y = 0) (h : G X (pc + 1) lv (.long (x - x / y * y) :: st) σ o) : G X pc lv (.long y :: .long x :: st) σ o :=
  fun a ha H locs ls hW hl => lv_lrem C.1 C.2.1 d hy (h a ha H locs ls hW hl)
theorem G_i2l (C : g_C X cc own Ts rm nL) {x : Int32} (d : decode cc pc = .ok (.i2l, 1))  (h : G X (pc + 1) lv (.long x.toInt64 :: st) σ o) : G X pc lv (.int x :: st) σ o :=
  fun a ha H locs ls hW hl => lv_i2l C.1 C.2.1 d rfl (h a ha H locs ls hW hl)
theorem G_l2i (C : g_C X cc own Ts rm nL) {x : Int64} (d : decode cc pc = .ok (.l2i, 1))  (h : G X (pc + 1) lv (.int x.toInt32 :: st) σ o) : G X pc lv (.long x :: st) σ o :=
  fun a ha H locs ls hW hl => lv_l2i C.1 C.2.1 d rfl (h a ha H locs ls hW hl)
theorem G_iushr (C : g_C X cc own Ts rm nL) {x y : Int32} (d : decode cc pc = .ok (.iushr, 1))  (h : G X (pc + 1) lv (.int (x.toUInt32 >>> (y.toUInt32 &&& Int32.toUInt32 31)).toInt32 :: st) σ o) : G X pc lv (.int y :: .int x :: st) σ o :=
  fun a ha H locs ls hW hl => lv_iushr C.1 C.2.1 d rfl (h a ha H locs ls hW hl)
theorem G_lcmp (C : g_C X cc own Ts rm nL) {x y : Int64} (d : decode cc pc = .ok (.lcmp, 1))  (h : G X (pc + 1) lv (.int (lg_cmp x y) :: st) σ o) : G X pc lv (.long y :: .long x :: st) σ o :=
  fun a ha H locs ls hW hl => W.lcmp C.1 C.2.1 d (h a ha H locs ls hW hl)
theorem G_dup (C : g_C X cc own Ts rm nL) {va : Value} (d : decode cc pc = .ok (.dup, 1)) (hv : va.category = 1) (h : G X (pc + 1) lv (va :: va :: st) σ o) : G X pc lv (va :: st) σ o :=
  fun a ha H locs ls hW hl => lv_dup C.1 C.2.1 d hv (h a ha H locs ls hW hl)
theorem G_pop (C : g_C X cc own Ts rm nL) {va : Value} (d : decode cc pc = .ok (.pop, 1)) (hv : va.category = 1) (h : G X (pc + 1) lv (st) σ o) : G X pc lv (va :: st) σ o :=
  fun a ha H locs ls hW hl => lv_pop C.1 C.2.1 d hv (h a ha H locs ls hW hl)
theorem G_dup_x1 (C : g_C X cc own Ts rm nL) {va vb : Value} (d : decode cc pc = .ok (.dup_x1, 1)) (hv : va.category = 1) (hu : vb.category = 1) (h : G X (pc + 1) lv (va :: vb :: va :: st) σ o) : G X pc lv (va :: vb :: st) σ o :=
  fun a ha H locs ls hW hl => lv_dup_x1 C.1 C.2.1 d hv hu (h a ha H locs ls hW hl)
theorem G_dup_x2 (C : g_C X cc own Ts rm nL) {va vb vd : Value} (d : decode cc pc = .ok (.dup_x2, 1)) (hv : va.category = 1) (hu : vb.category = 1) (hz : vd.category = 1) (h : G X (pc + 1) lv (va :: vb :: vd :: va :: st) σ o) : G X pc lv (va :: vb :: vd :: st) σ o :=
  fun a ha H locs ls hW hl => lv_dup_x2 C.1 C.2.1 d hv hu hz (h a ha H locs ls hW hl)
theorem G_dup2 (C : g_C X cc own Ts rm nL) {va vb : Value} (d : decode cc pc = .ok (.dup2, 1)) (hv : va.category = 1) (hu : vb.category = 1) (h : G X (pc + 1) lv (va :: vb :: va :: vb :: st) σ o) : G X pc lv (va :: vb :: st) σ o :=
  fun a ha H locs ls hW hl => lv_dup2_11 C.1 C.2.1 d hv hu (h a ha H locs ls hW hl)
theorem G_goto (C : g_C X cc own Ts rm nL) {off : Int} {tgt : Nat} (d : decode cc pc = .ok (.goto off, 3)) (ht : (pc : Int) + off = (tgt : Int)) (h : G X tgt lv st σ o) : G X pc lv st σ o := fun a ha H locs ls hW hl => lv_goto C.1 C.2.1 d ht (h a ha H locs ls hW hl)
theorem G_if_eq (C : g_C X cc own Ts rm nL) {x : Int32} {off : Int} {tgt : Nat} (d : decode cc pc = .ok (.ifCond .eq off, 3)) (ht : (pc : Int) + off = (tgt : Int)) (h1 : x = 0 → G X tgt lv st σ o1) (h2 : ¬ x = 0 → G X (pc + 3) lv st σ o2) : G X pc lv (.int x :: st) σ (if x = 0 then o1 else o2) := by
  intro a ha H locs ls hW hl
  by_cases hc : x = 0
  · rw [if_pos hc] at ha
    exact lv_if_eq C.1 C.2.1 d ht (fun _ => h1 hc a ha H locs ls hW hl) (fun q => absurd hc q)
  · rw [if_neg hc] at ha
    exact lv_if_eq C.1 C.2.1 d ht (fun q => absurd q hc) (fun _ => h2 hc a ha H locs ls hW hl)
theorem G_icmp_eq (C : g_C X cc own Ts rm nL) {x y : Int32} {off : Int} {tgt : Nat} (d : decode cc pc = .ok (.if_icmp .eq off, 3)) (ht : (pc : Int) + off = (tgt : Int)) (h1 : x = y → G X tgt lv st σ o1) (h2 : ¬ x = y → G X (pc + 3) lv st σ o2) : G X pc lv (.int y :: .int x :: st) σ (if x = y then o1 else o2) := by
  intro a ha H locs ls hW hl
  by_cases hc : x = y
  · rw [if_pos hc] at ha
    exact lv_icmp_eq C.1 C.2.1 d ht (fun _ => h1 hc a ha H locs ls hW hl) (fun q => absurd hc q)
  · rw [if_neg hc] at ha
    exact lv_icmp_eq C.1 C.2.1 d ht (fun q => absurd q hc) (fun _ => h2 hc a ha H locs ls hW hl)
theorem G_if_ne (C : g_C X cc own Ts rm nL) {x : Int32} {off : Int} {tgt : Nat} (d : decode cc pc = .ok (.ifCond .ne off, 3)) (ht : (pc : Int) + off = (tgt : Int)) (h1 : x = 0 → G X (pc + 3) lv st σ o1) (h2 : ¬ x = 0 → G X tgt lv st σ o2) : G X pc lv (.int x :: st) σ (if x = 0 then o1 else o2) := by
  intro a ha H locs ls hW hl
  by_cases hc : x = 0
  · rw [if_pos hc] at ha
    exact lv_if_ne C.1 C.2.1 d ht (fun q => absurd hc q) (fun _ => h1 hc a ha H locs ls hW hl)
  · rw [if_neg hc] at ha
    exact lv_if_ne C.1 C.2.1 d ht (fun _ => h2 hc a ha H locs ls hW hl) (fun q => absurd q hc)
theorem G_icmp_ne (C : g_C X cc own Ts rm nL) {x y : Int32} {off : Int} {tgt : Nat} (d : decode cc pc = .ok (.if_icmp .ne off, 3)) (ht : (pc : Int) + off = (tgt : Int)) (h1 : x = y → G X (pc + 3) lv st σ o1) (h2 : ¬ x = y → G X tgt lv st σ o2) : G X pc lv (.int y :: .int x :: st) σ (if x = y then o1 else o2) := by
  intro a ha H locs ls hW hl
  by_cases hc : x = y
  · rw [if_pos hc] at ha
    exact lv_icmp_ne C.1 C.2.1 d ht (fun q => absurd hc q) (fun _ => h1 hc a ha H locs ls hW hl)
  · rw [if_neg hc] at ha
    exact lv_icmp_ne C.1 C.2.1 d ht (fun _ => h2 hc a ha H locs ls hW hl) (fun q => absurd q hc)
theorem G_if_lt (C : g_C X cc own Ts rm nL) {x : Int32} {off : Int} {tgt : Nat} (d : decode cc pc = .ok (.ifCond .lt off, 3)) (ht : (pc : Int) + off = (tgt : Int)) (h1 : x < 0 → G X tgt lv st σ o1) (h2 : ¬ x < 0 → G X (pc + 3) lv st σ o2) : G X pc lv (.int x :: st) σ (if x < 0 then o1 else o2) := by
  intro a ha H locs ls hW hl
  by_cases hc : x < 0
  · rw [if_pos hc] at ha
    exact lv_if_lt C.1 C.2.1 d ht (fun _ => h1 hc a ha H locs ls hW hl) (fun q => absurd hc q)
  · rw [if_neg hc] at ha
    exact lv_if_lt C.1 C.2.1 d ht (fun q => absurd q hc) (fun _ => h2 hc a ha H locs ls hW hl)
theorem G_icmp_lt (C : g_C X cc own Ts rm nL) {x y : Int32} {off : Int} {tgt : Nat} (d : decode cc pc = .ok (.if_icmp .lt off, 3)) (ht : (pc : Int) + off = (tgt : Int)) (h1 : x < y → G X tgt lv st σ o1) (h2 : ¬ x < y → G X (pc + 3) lv st σ o2) : G X pc lv (.int y :: .int x :: st) σ (if x < y then o1 else o2) := by
  intro a ha H locs ls hW hl
  by_cases hc : x < y
  · rw [if_pos hc] at ha
    exact lv_icmp_lt C.1 C.2.1 d ht (fun _ => h1 hc a ha H locs ls hW hl) (fun q => absurd hc q)
  · rw [if_neg hc] at ha
    exact lv_icmp_lt C.1 C.2.1 d ht (fun q => absurd q hc) (fun _ => h2 hc a ha H locs ls hW hl)
theorem G_if_ge (C : g_C X cc own Ts rm nL) {x : Int32} {off : Int} {tgt : Nat} (d : decode cc pc = .ok (.ifCond .ge off, 3)) (ht : (pc : Int) + off = (tgt : Int)) (h1 : 0 ≤ x → G X tgt lv st σ o1) (h2 : ¬ 0 ≤ x → G X (pc + 3) lv st σ o2) : G X pc lv (.int x :: st) σ (if 0 ≤ x then o1 else o2) := by
  intro a ha H locs ls hW hl
  by_cases hc : 0 ≤ x
  · rw [if_pos hc] at ha
    exact lv_if_ge C.1 C.2.1 d ht (fun _ => h1 hc a ha H locs ls hW hl) (fun q => absurd hc q)
  · rw [if_neg hc] at ha
    exact lv_if_ge C.1 C.2.1 d ht (fun q => absurd q hc) (fun _ => h2 hc a ha H locs ls hW hl)
theorem G_icmp_ge (C : g_C X cc own Ts rm nL) {x y : Int32} {off : Int} {tgt : Nat} (d : decode cc pc = .ok (.if_icmp .ge off, 3)) (ht : (pc : Int) + off = (tgt : Int)) (h1 : y ≤ x → G X tgt lv st σ o1) (h2 : ¬ y ≤ x → G X (pc + 3) lv st σ o2) : G X pc lv (.int y :: .int x :: st) σ (if y ≤ x then o1 else o2) := by
  intro a ha H locs ls hW hl
  by_cases hc : y ≤ x
  · rw [if_pos hc] at ha
    exact lv_icmp_ge C.1 C.2.1 d ht (fun _ => h1 hc a ha H locs ls hW hl) (fun q => absurd hc q)
  · rw [if_neg hc] at ha
    exact lv_icmp_ge C.1 C.2.1 d ht (fun q => absurd q hc) (fun _ => h2 hc a ha H locs ls hW hl)
theorem G_if_gt (C : g_C X cc own Ts rm nL) {x : Int32} {off : Int} {tgt : Nat} (d : decode cc pc = .ok (.ifCond .gt off, 3)) (ht : (pc : Int) + off = (tgt : Int)) (h1 : 0 < x → G X tgt lv st σ o1) (h2 : ¬ 0 < x → G X (pc + 3) lv st σ o2) : G X pc lv (.int x :: st) σ (if 0 < x then o1 else o2) := by
  intro a ha H locs ls hW hl
  by_cases hc : 0 < x
  · rw [if_pos hc] at ha
    exact lv_if_gt C.1 C.2.1 d ht (fun _ => h1 hc a ha H locs ls hW hl) (fun q => absurd hc q)
  · rw [if_neg hc] at ha
    exact lv_if_gt C.1 C.2.1 d ht (fun q => absurd q hc) (fun _ => h2 hc a ha H locs ls hW hl)
theorem G_icmp_gt (C : g_C X cc own Ts rm nL) {x y : Int32} {off : Int} {tgt : Nat} (d : decode cc pc = .ok (.if_icmp .gt off, 3)) (ht : (pc : Int) + off = (tgt : Int)) (h1 : y < x → G X tgt lv st σ o1) (h2 : ¬ y < x → G X (pc + 3) lv st σ o2) : G X pc lv (.int y :: .int x :: st) σ (if y < x then o1 else o2) := by
  intro a ha H locs ls hW hl
  by_cases hc : y < x
  · rw [if_pos hc] at ha
    exact lv_icmp_gt C.1 C.2.1 d ht (fun _ => h1 hc a ha H locs ls hW hl) (fun q => absurd hc q)
  · rw [if_neg hc] at ha
    exact lv_icmp_gt C.1 C.2.1 d ht (fun q => absurd q hc) (fun _ => h2 hc a ha H locs ls hW hl)
theorem G_if_le (C : g_C X cc own Ts rm nL) {x : Int32} {off : Int} {tgt : Nat} (d : decode cc pc = .ok (.ifCond .le off, 3)) (ht : (pc : Int) + off = (tgt : Int)) (h1 : x ≤ 0 → G X tgt lv st σ o1) (h2 : ¬ x ≤ 0 → G X (pc + 3) lv st σ o2) : G X pc lv (.int x :: st) σ (if x ≤ 0 then o1 else o2) := by
  intro a ha H locs ls hW hl
  by_cases hc : x ≤ 0
  · rw [if_pos hc] at ha
    exact lv_if_le C.1 C.2.1 d ht (fun _ => h1 hc a ha H locs ls hW hl) (fun q => absurd hc q)
  · rw [if_neg hc] at ha
    exact lv_if_le C.1 C.2.1 d ht (fun q => absurd q hc) (fun _ => h2 hc a ha H locs ls hW hl)
theorem G_icmp_le (C : g_C X cc own Ts rm nL) {x y : Int32} {off : Int} {tgt : Nat} (d : decode cc pc = .ok (.if_icmp .le off, 3)) (ht : (pc : Int) + off = (tgt : Int)) (h1 : x ≤ y → G X tgt lv st σ o1) (h2 : ¬ x ≤ y → G X (pc + 3) lv st σ o2) : G X pc lv (.int y :: .int x :: st) σ (if x ≤ y then o1 else o2) := by
  intro a ha H locs ls hW hl
  by_cases hc : x ≤ y
  · rw [if_pos hc] at ha
    exact lv_icmp_le C.1 C.2.1 d ht (fun _ => h1 hc a ha H locs ls hW hl) (fun q => absurd hc q)
  · rw [if_neg hc] at ha
    exact lv_icmp_le C.1 C.2.1 d ht (fun q => absurd q hc) (fun _ => h2 hc a ha H locs ls hW hl)
theorem G_tsIn (C : g_C X cc own Ts rm nL) {dflt lo hi : Int} {offs : Array Int} {len : Nat} {x : Int32} {off : Int} {tgt : Nat} (d : decode cc pc = .ok (.tableswitch dflt lo hi offs, len)) {k : Int32} (hk : x = k) (hc : (decide (lo ≤ k.toInt) && decide (k.toInt ≤ hi) && (offs[(k.toInt - lo).toNat]? == some off) && decide ((pc : Int) + off = (tgt : Int))) = true) (h : G X tgt lv st σ o) : G X pc lv (.int x :: st) σ o := by
  subst hk
  simp only [Bool.and_eq_true, decide_eq_true_eq, beq_iff_eq] at hc
  exact fun a ha H locs ls hW hl => lv_tableIn C.1 C.2.1 d (by omega) (by omega) hc.1.2 hc.2 (h a ha H locs ls hW hl)
theorem G_tsOut (C : g_C X cc own Ts rm nL) {dflt lo hi : Int} {offs : Array Int} {len : Nat} {x : Int32} {tgt : Nat} (d : decode cc pc = .ok (.tableswitch dflt lo hi offs, len)) (hx : x.toInt < lo ∨ hi < x.toInt) (ht : (pc : Int) + dflt = (tgt : Int)) (h : G X tgt lv st σ o) : G X pc lv (.int x :: st) σ o :=
  fun a ha H locs ls hW hl => lv_tableOut C.1 C.2.1 d hx ht (h a ha H locs ls hW hl)
theorem G_ls (C : g_C X cc own Ts rm nL) {dflt : Int} {ps : Array (Int × Int)} {len : Nat} {x : Int32} {off : Int} {tgt : Nat} (d : decode cc pc = .ok (.lookupswitch dflt ps, len)) (hp : (ps.toList.zip (ps.toList.drop 1)).all (fun (a, next) => a.1 < next.1) = true) (ho : Op.lookupswitch.offset ps.toList dflt x.toInt = off) (ht : (pc : Int) + off = (tgt : Int)) (h : G X tgt lv st σ o) : G X pc lv (.int x :: st) σ o :=
  fun a ha H locs ls hW hl => lv_lookup C.1 C.2.1 d hp ho ht (h a ha H locs ls hW hl)
/-- a field that a method reads, by its words -/
def g_Fld (Ts : List Cond) (own : String) (index ci k : Nat) : Prop := ∃ (C : String) (T : u_T) (N : Nat), vwCl[ci]? = some (C, T, N) ∧ (∀ w ∈ u_ws C T N, w ∈ Ts) ∧ k < N ∧ Cond.fieldLink own index (T k).1 (T k).2.1 (T k).2.2.1 ∈ Ts
def g_FldP (Ts : List Cond) (own : String) (index ci k : Nat) (ty : FieldType) : Prop := ∃ (C : String) (T : u_T) (N : Nat) (t0 : Nat → FieldType), vwCl[ci]? = some (C, T, N) ∧ (∀ w ∈ u_ws C T N, w ∈ Ts) ∧ k < N ∧ Cond.fieldLink own index (T k).1 (T k).2.1 (T k).2.2.1 ∈ Ts ∧ (∀ k, k < N → parseFieldDescriptor (T k).2.2.1 = some (t0 k)) ∧ (∀ a, a < N → ∀ b, b < N → a ≠ b → (T a).2.1 ≠ (T b).2.1) ∧ (T k).2.2.2 = false ∧ parseFieldDescriptor (T k).2.2.1 = some ty
theorem G_getI (C : g_C X cc own Ts rm nL) {index ci k c : Nat} {ds : List (Option (Option Nat))} (F : g_Fld Ts own index ci k) (hT : g_has (g_n X) (g_T X) c (.inl (ci, ds))) (hf : ds[k]? = some none) (d : decode cc pc = .ok (.getfield index, 3)) (h : G X (pc + 3) lv (.int (σ.1 c k) :: st) σ o) : G X pc lv (.ref (g_b X + c) :: st) σ o := by
  obtain ⟨C', T', N, f1, f2, f3, f4⟩ := F
  intro a ha H locs ls hW hl
  refine va_get C.1 C.2.1 (hts := C.2.2.2.2.1) f2 C.2.2.2.1 C.2.2.2.2.2.1.1 hW.1.2 c (g_wl_at hT) f1 k f3 (C.2.2.2.2.1 _ f4) (fun _ h9 => h9) (v := .int (σ.1 c k)) ?_ d (h a ha H locs ls hW hl)
  rw [g_fs_at, hf]; rfl
theorem G_getR (C : g_C X cc own Ts rm nL) {index ci k c r : Nat} {ds : List (Option (Option Nat))} (F : g_Fld Ts own index ci k) (hT : g_has (g_n X) (g_T X) c (.inl (ci, ds))) (hf : ds[k]? = some (some (some r))) (d : decode cc pc = .ok (.getfield index, 3)) (h : G X (pc + 3) lv (.ref (g_b X + r) :: st) σ o) : G X pc lv (.ref (g_b X + c) :: st) σ o := by
  obtain ⟨C', T', N, f1, f2, f3, f4⟩ := F
  intro a ha H locs ls hW hl
  refine va_get C.1 C.2.1 (hts := C.2.2.2.2.1) f2 C.2.2.2.1 C.2.2.2.2.2.1.1 hW.1.2 c (g_wl_at hT) f1 k f3 (C.2.2.2.2.1 _ f4) (fun _ h9 => h9) (v := .ref (g_b X + r)) ?_ d (h a ha H locs ls hW hl)
  rw [g_fs_at, hf]; rfl
theorem g_put_size {D : va_G} {ws : va_W} {H H1 : Heap} {b n c : Nat} (z : H.size = b + n) (h : H1.size = H.size) : H1.size = b + n := h.trans z
theorem G_putI (C : g_C X cc own Ts rm nL) {index ci k c : Nat} {ds : List (Option (Option Nat))} {ty : FieldType} {v : Int32} (F : g_FldP Ts own index ci k ty) (hT : g_has (g_n X) (g_T X) c (.inl (ci, ds))) (hf : ds[k]? = some none) (hn : narrow ty (.int v) = .int v) (hfit : fits ty (.int v) = true) (d : decode cc pc = .ok (.putfield index, 3)) (h : G X (pc + 3) lv st (g_sI σ c k v) o) : G X pc lv (.int v :: .ref (g_b X + c) :: st) σ o := by
  obtain ⟨C', T', N, t0, f1, f2, f3, f4, f5, f6, f7, f8⟩ := F
  intro a ha H locs ls hW hl
  have hlen : k < (g_fs (g_b X) (σ.1 c) ds).length := by rw [g_fs_len]; exact (List.getElem?_eq_some_iff.mp hf).1
  have hK := C.2.2.2.2.2.1.1
  have hD := g_D X.2.1 (g_n X) (g_T X) σ
  have hap := va_apart (own := own) C.2.2.2.2.1 f2 t0 f5 f6 hK f1
  obtain ⟨r, h1, cell, q1, q2, q3, q4⟩ := hW.1.2 c _ (g_wl_at hT)
  have hr : r = (C', T', N) := Option.some.inj (h1.symm.trans f1)
  subst hr
  obtain ⟨hS, hfc, kC, hkC, hkind⟩ := hK.1 ci _ f1
  obtain ⟨cf, kf, fi, f, hi, hsl⟩ := hS k f3
  have hlay := C.2.2.2.2.1 _ (f2 _ (u_in_lay f3))
  unfold u_lay at hlay
  rw [if_neg (by rw [f7]; decide)] at hlay
  have hst := (u_facts hfc hkC (u_lays C.2.2.2.2.1 f2 f3) hi).1
  have h6 := u_store hfc hkC hkind hlay hi f8 hn hfit
  refine W.putK C.1 C.2.1 (f := f) ⟨C.2.2.2.1, C.2.2.2.2.1 _ f4, ⟨_, _, _, hi⟩, hst⟩ (by rw [q2]; exact h6) q1 q3 (by rw [hsl]; exact k2_hasslot (q4 k f3)) rfl rfl d fun H' e1 e2 e3 => ?_
  rw [hsl] at e1 ⊢
  have hP2 := hW.1.2.set hD (g_wl_at hT) (e := .inr (ci, (g_fs (g_b X) (σ.1 c) ds).set k (.int v))) ⟨_, f1, t_OB.to (V := updV (vp_V (g_fs (g_b X) (σ.1 c) ds)) k (.int v)) ⟨_, e1, q2, q3, t_set q4 hap f3 (.int v)⟩ (fun j _ => vp_updV_set hlen (.int v) j)⟩ e3
  rw [g_fs_set _ _ _ _ _ hf] at hP2
  have e9 := g_set1 (E := X.2.1) (σ := σ) hT (upd (σ.1 c) k v)
  refine h a ha H' _ ls ⟨⟨e2.trans hW.1.1, ?_⟩, hW.2.put e2 e3 (hD.2 c _ (g_wl_at hT))⟩ hl
  have e10 : g_wl X.2.1 (g_n X) (g_T X) (g_sI σ c k v) = (g_wl X.2.1 (g_n X) (g_T X) σ).set c (g_b X + c, .inr (ci, g_fs (g_b X) (upd (σ.1 c) k v) ds)) := e9.symm
  rw [e10]
  exact hP2
theorem G_ald (C : g_C X cc own Ts rm nL) {c n : Nat} {i : Int32} (hT : g_has (g_n X) (g_T X) c (.inr (.inl n))) (hi : g_in i n) (d : decode cc pc = .ok (.iaload, 1)) (h : G X (pc + 1) lv (.int (σ.1 c i.toNatClampNeg) :: st) σ o) : G X pc lv (.int i :: .ref (g_b X + c) :: st) σ o :=
  fun a ha H locs ls hW hl => va_iald C.1 C.2.1 C.2.2.2.2.2.1.1 hW.1.2 c 0 (g_wl_at hT) rfl (g_in_vp hi) d (h a ha H locs ls hW hl)
theorem G_lald (C : g_C X cc own Ts rm nL) {c n : Nat} {i : Int32} (hT : g_has (g_n X) (g_T X) c (.inr (.inr (.inl n)))) (hi : g_in i n) (d : decode cc pc = .ok (.laload, 1)) (h : G X (pc + 1) lv (.long (σ.2 c i.toNatClampNeg) :: st) σ o) : G X pc lv (.int i :: .ref (g_b X + c) :: st) σ o :=
  fun a ha H locs ls hW hl => va_lald C.1 C.2.1 C.2.2.2.2.2.1.1 hW.1.2 c 1 (g_wl_at hT) rfl (g_in_vp hi) d (h a ha H locs ls hW hl)
theorem G_aald (C : g_C X cc own Ts rm nL) {c n r : Nat} {i : Int32} (hT : g_has (g_n X) (g_T X) c (.inr (.inr (.inr (n, r))))) (hi : g_in i n) (d : decode cc pc = .ok (.aaload, 1)) (h : G X (pc + 1) lv (.ref (g_b X + (r + i.toNatClampNeg)) :: st) σ o) : G X pc lv (.int i :: .ref (g_b X + c) :: st) σ o := by
  intro a ha H locs ls hW hl
  have hin := g_in_vp hi
  have hlt : i.toNatClampNeg < n := Nat.not_le.mp fun q => hin (Or.inr q)
  have hh := h a ha H locs ls hW hl
  refine W.aald (v := va_rf (if i.toNatClampNeg < n then some (g_b X + (r + i.toNatClampNeg)) else none)) (ty := .array .int) C.1 C.2.1 (hW.1.2 c _ (g_wl_at hT)) ((C.2.2.2.2.2.1.1.2 2 _ rfl).1 n (fun j => va_rf (if j < n then some (g_b X + (r + j)) else none))) rfl (fun q => by cases q) (by show ¬ (i < 0 ∨ (arrV _ _ _).slots.size ≤ _); rw [arrV_size]; exact hin) (by show (arrV _ _ _).slots[_]? = _; rw [arrV_read _ _ hlt]) rfl rfl d ?_
  rw [if_pos hlt]
  exact hh
theorem G_alen (C : g_C X cc own Ts rm nL) {c n : Nat} {v : Int32} (hT : g_has (g_n X) (g_T X) c (.inr (.inl n))) (hv : Int32.ofNat n = v) (d : decode cc pc = .ok (.arraylength, 1)) (h : G X (pc + 1) lv (.int v :: st) σ o) : G X pc lv (.ref (g_b X + c) :: st) σ o :=
  fun a ha H locs ls hW hl => va_alen C.1 C.2.1 C.2.2.2.2.2.1.1 hW.1.2 c 0 (g_wl_at hT) rfl hv d (h a ha H locs ls hW hl)
theorem G_alenL (C : g_C X cc own Ts rm nL) {c n : Nat} {v : Int32} (hT : g_has (g_n X) (g_T X) c (.inr (.inr (.inl n)))) (hv : Int32.ofNat n = v) (d : decode cc pc = .ok (.arraylength, 1)) (h : G X (pc + 1) lv (.int v :: st) σ o) : G X pc lv (.ref (g_b X + c) :: st) σ o :=
  fun a ha H locs ls hW hl => va_alen C.1 C.2.1 C.2.2.2.2.2.1.1 hW.1.2 c 1 (g_wl_at hT) rfl hv d (h a ha H locs ls hW hl)
theorem g_heap_size {s : State} {H0 H : Heap} {A : Nat → Prop} {locs : List Loc} (h : va_S A H0 H locs) : H0.size ≤ H.size := h.1
theorem G_ast (C : g_C X cc own Ts rm nL) {c n : Nat} {i v : Int32} (hT : g_has (g_n X) (g_T X) c (.inr (.inl n))) (hi : g_in i n) (d : decode cc pc = .ok (.iastore, 1)) (h : G X (pc + 1) lv st (g_sI σ c i.toNatClampNeg v) o) : G X pc lv (.int v :: .int i :: .ref (g_b X + c) :: st) σ o := by
  intro a ha H locs ls hW hl
  have hD := g_D X.2.1 (g_n X) (g_T X) σ
  have ha0 := g_wl_at (E := X.2.1) (σ := σ) hT
  have hin := g_in_vp hi
  refine W.iast C.1 C.2.1 (hW.1.2 c _ ha0) ((C.2.2.2.2.2.1.1.2 0 _ rfl).1 n (fun j => .int (σ.1 c j))) (fun q => by cases q) (by show ¬ (i < 0 ∨ (arrV _ _ _).slots.size ≤ _); rw [arrV_size]; exact hin) rfl rfl d fun H1 e z oq => ?_
  have hP2 := hW.1.2.set hD ha0 (e := g_ce X.2.1 (.inr (.inl n)) (upd (σ.1 c) i.toNatClampNeg v) (σ.2 c)) (by
    show H1[g_b X + c]? = some (vp_cell _ _)
    rw [e]
    show some ((vp_cell X.2.1.2.2.1 (n, .inl (σ.1 c))).setSlot i.toNatClampNeg (.int v)) = some (vp_cell X.2.1.2.2.1 (n, .inl (upd (σ.1 c) i.toNatClampNeg v)))
    rw [vp_cell_i, vp_cell_i, arrV_store]
    congr 2
    funext q
    by_cases hq : q = i.toNatClampNeg
    · subst hq
      simp [updV, upd]
    · simp [updV, upd, hq]) oq
  refine h a ha H1 _ ls ⟨⟨z.trans hW.1.1, ?_⟩, hW.2.put z oq (hD.2 c _ ha0)⟩ hl
  have e10 := g_set1 (E := X.2.1) (σ := σ) hT (upd (σ.1 c) i.toNatClampNeg v)
  have e11 : g_wl X.2.1 (g_n X) (g_T X) (g_sI σ c i.toNatClampNeg v) = (g_wl X.2.1 (g_n X) (g_T X) σ).set c (X.2.1.2.1 + c, g_ce X.2.1 (.inr (.inl n)) (upd (σ.1 c) i.toNatClampNeg v) (σ.2 c)) := e10.symm
  rw [e11]
  exact hP2
theorem G_lst (C : g_C X cc own Ts rm nL) {c n : Nat} {i : Int32} {v : Int64} (hT : g_has (g_n X) (g_T X) c (.inr (.inr (.inl n)))) (hi : g_in i n) (d : decode cc pc = .ok (.lastore, 1)) (h : G X (pc + 1) lv st (g_sL σ c i.toNatClampNeg v) o) : G X pc lv (.long v :: .int i :: .ref (g_b X + c) :: st) σ o := by
  intro a ha H locs ls hW hl
  have hD := g_D X.2.1 (g_n X) (g_T X) σ
  have ha0 := g_wl_at (E := X.2.1) (σ := σ) hT
  have hin := g_in_vp hi
  refine W.last C.1 C.2.1 (hW.1.2 c _ ha0) ((C.2.2.2.2.2.1.1.2 1 _ rfl).1 n (fun j => .long (σ.2 c j))) (fun q => by cases q) (by show ¬ (i < 0 ∨ (arrV _ _ _).slots.size ≤ _); rw [arrV_size]; exact hin) rfl rfl d fun H1 e z oq => ?_
  have hP2 := hW.1.2.set hD ha0 (e := g_ce X.2.1 (.inr (.inr (.inl n))) (σ.1 c) (vp_updL (σ.2 c) i.toNatClampNeg v)) (by
    show H1[g_b X + c]? = some (vp_cell _ _)
    rw [e]
    show some ((vp_cell X.2.1.2.2.2.1 (n, .inr (.inl (σ.2 c)))).setSlot i.toNatClampNeg (.long v)) = some (vp_cell X.2.1.2.2.2.1 (n, .inr (.inl (vp_updL (σ.2 c) i.toNatClampNeg v))))
    rw [vp_cell_l, vp_cell_l, arrV_store]
    congr 2
    funext q
    by_cases hq : q = i.toNatClampNeg
    · subst hq
      simp [updV, vp_updL]
    · simp [updV, vp_updL, hq]) oq
  refine h a ha H1 _ ls ⟨⟨z.trans hW.1.1, ?_⟩, hW.2.put z oq (hD.2 c _ ha0)⟩ hl
  have e10 := g_set2 (E := X.2.1) (σ := σ) hT i.toNatClampNeg v
  rw [← e10]
  exact hP2
theorem G_aldk (C : g_C X cc own Ts rm nL) {c n k : Nat} {i : Int32} (hT : g_has (g_n X) (g_T X) c (.inr (.inl n))) (hi : g_in i n) (hk : i.toNatClampNeg = k) (d : decode cc pc = .ok (.iaload, 1)) (h : G X (pc + 1) lv (.int (σ.1 c k) :: st) σ o) : G X pc lv (.int i :: .ref (g_b X + c) :: st) σ o := G_ald C hT hi d (hk ▸ h)
theorem G_laldk (C : g_C X cc own Ts rm nL) {c n k : Nat} {i : Int32} (hT : g_has (g_n X) (g_T X) c (.inr (.inr (.inl n)))) (hi : g_in i n) (hk : i.toNatClampNeg = k) (d : decode cc pc = .ok (.laload, 1)) (h : G X (pc + 1) lv (.long (σ.2 c k) :: st) σ o) : G X pc lv (.int i :: .ref (g_b X + c) :: st) σ o := G_lald C hT hi d (hk ▸ h)
theorem G_astk (C : g_C X cc own Ts rm nL) {c n k : Nat} {i v : Int32} (hT : g_has (g_n X) (g_T X) c (.inr (.inl n))) (hi : g_in i n) (hk : i.toNatClampNeg = k) (d : decode cc pc = .ok (.iastore, 1)) (h : G X (pc + 1) lv st (g_sI σ c k v) o) : G X pc lv (.int v :: .int i :: .ref (g_b X + c) :: st) σ o := G_ast C hT hi d (hk ▸ h)
theorem G_lstk (C : g_C X cc own Ts rm nL) {c n k : Nat} {i : Int32} {v : Int64} (hT : g_has (g_n X) (g_T X) c (.inr (.inr (.inl n)))) (hi : g_in i n) (hk : i.toNatClampNeg = k) (d : decode cc pc = .ok (.lastore, 1)) (h : G X (pc + 1) lv st (g_sL σ c k v) o) : G X pc lv (.long v :: .int i :: .ref (g_b X + c) :: st) σ o := G_lst C hT hi d (hk ▸ h)
end GR
theorem g_nz {v : Int32} (h : g_b01 v) : narrow .boolean (.int v) = .int v := by rcases h with h | h <;> subst h <;> decide +kernel
theorem g_fz {v : Int32} (h : g_b01 v) : fits .boolean (.int v) = true := by rcases h with h | h <;> subst h <;> decide +kernel
