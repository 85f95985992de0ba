/-! THE CLAIM OUT OF ONE WALK OF THE LAW'S BODY. Your part is whole_start (and what it stands on); all else here is the same for every law, but numbers. -/
def R_law : String := "BirthdayLotLaw"
def lw_P (b : Addr) (xs : List Int32) (args : Array Value) (s : State) : Prop := args = #[.ref b] ∧ s.IntsAt b xs ∧ xs.length ≤ 2560 ∧ (Jvm.Cond.and given_1 narrow_1).before args s = true
def lw_Q (_ : Array Value) (s : State) (o : Outcome) (t : State) : Prop := o = .returned (some (.int 1)) ∧ Framed s o t [] 600000 7302250
def lw_Z (below : List Frame) (a : Array Value) (s : State) : State → Prop := fun t => ∃ o, t.status = .running ∧ Ended t below o ∧ lw_Q a s o t
/-- the law's own end, with 1 on the stack, nothing written that was there before, its room as the claim has it -/
theorem lw_ret {p : Program} {l : Launch} {e : Env} {s : State} {m : MethodId} {below : List Frame} {meth : Method} {c : Code} {b : Nat} (hx : p.tables.exec = Jvm.exec) (hb : c.code = code) (hr : meth.sig.returnType = ret) (hlocks : meth.locks = false) {pc : Nat} {H : Heap} {ls : Array Slot} (hdg : decode code pc = .ok (.ireturn, 1)) : W p l e room_1 s m #[Value.ref b] below meth c H [] 600000 7302250 (lw_Z below #[Value.ref b] s) (F0 m pc ls [.int 1]) := by
  intro T hT X
  obtain ⟨fs, hret, hrun, hended, hW, hframe⟩ := X.leave (v := some (.int 1)) (hlocks := hlocks) (fun h => by rw [hr] at h; cases h)
  have hmeth' : T.vm.method? m = some meth := X.method'
  refine ⟨T.setFrames fs, ?_, .returned (some (.int 1)), hrun, hended, rfl, ⟨_, rfl⟩, hW, hframe⟩
  jvm_step X.here [X.here.top, hx, hb, hdg, hmeth', hr, ret, narrow_b1]
  (try refine ⟨rfl, ?_⟩); (try refine ⟨rfl, ?_⟩)
  first | (intro acts; rw [hret _ acts rfl rfl rfl]) | rw [hret _ _ rfl rfl rfl]
  exact Steps.refl _
/-- what holds at the law's entry: the machine, the code, the tables' words (any of lw_tbl by 'hts w (by decide +kernel)'), the script of L ints xs at the cell b, what the Statement gives of the start (any of its parts by flat_of_before) -/
def lw_At (p : Program) (s : State) (m : MethodId) (meth : Method) (c : Code) (b L : Nat) (xs : Nat → Int32) : Prop :=
  p.tables.exec = Jvm.exec ∧ c.code = code ∧ meth.sig.returnType = ret ∧ c.maxLocals = 4 ∧ s.vm.findClass R_law = some m.cls ∧ (∀ w ∈ lw_tbl, w.before #[Value.ref b] s = true) ∧ va_X b L xs s s.heap ∧ b < s.heap.size ∧ meth.locks = false ∧ (Jvm.Cond.and given_1 narrow_1).before #[Value.ref b] s = true
def g_Scr {α : Type} (X : g_X α) (b L : Nat) (xs : Nat → Int32) : Prop := va_X b L xs (g_s X) (g_s X).heap ∧ b < (g_s X).heap.size ∧ b < g_b X
def g_qLaw (X : g_X Unit) (b : Nat) : Prop := X.1.2.2.2.2.2.2.2.2.1.sig.returnType = ret ∧ X.1.2.2.2.2.2.2.2.2.1.locks = false ∧ X.2.2.2.2 = (fun _ => lw_Z X.1.2.2.2.2.2.2.2.1 #[Value.ref b] (g_s X)) ∧ X.1.2.2.2.2.2.2.1 = #[Value.ref b] ∧ g_b X = (g_s X).heap.size ∧ X.2.2.1.1 ≤ 600000 ∧ X.2.2.1.2.1 ≤ 7302250 ∧ X.1.2.2.2.1 = room_1
section GLAW
variable {X : g_X Unit} {cc : ByteArray} {own : String} {Ts : List Cond} {rm : Room} {nL : Nat} {pc : Nat} {lv : List (Nat × Value)} {st : List Value} {σ : g_St} {o : Option Unit} {b L : Nat} {xs : Nat → Int32}
theorem G_sld (C : g_C X cc own Ts rm nL) (S : g_Scr X b L xs) {i : Int32} (hi : g_in i L) (d : decode cc pc = .ok (.iaload, 1)) (h : G X (pc + 1) lv (.int (xs i.toNatClampNeg) :: st) σ o) : G X pc lv (.int i :: .ref b :: st) σ o :=
  fun a ha H locs ls hW hl => va_sld C.1 C.2.1 S.1 S.2.1 (Nat.not_le.mpr S.2.2) hW.2 (g_in_vp hi) d (h a ha H locs ls hW hl)
theorem G_slen (C : g_C X cc own Ts rm nL) (S : g_Scr X b L xs) (d : decode cc pc = .ok (.arraylength, 1)) (h : G X (pc + 1) lv (.int (Int32.ofNat L) :: st) σ o) : G X pc lv (.ref b :: st) σ o :=
  fun a ha H locs ls hW hl => va_slen C.1 C.2.1 S.1 S.2.1 (Nat.not_le.mpr S.2.2) hW.2 d (h a ha H locs ls hW hl)
theorem G_lawret (C : g_C X code own Ts rm nL) (q : g_qLaw X b) (d : decode code pc = .ok (.ireturn, 1)) : G X pc lv [.int 1] σ (some ()) := by
  intro a ha H locs ls hW hl
  obtain ⟨q1, q2, q3, q4, q5, q6, q7, q8⟩ := q
  obtain ⟨⟨p, l, e, R, s, m, args, below, meth, c⟩, ⟨D, b0, cI, cJ, cR⟩, ⟨cells, slots, n, T⟩, nL', Qf⟩ := X
  dsimp only [g_s, g_b] at q1 q2 q3 q4 q5 q6 q7 q8
  subst q3
  subst q4
  subst q8
  refine va_forget (fun q hq => ?_) ?_
  · have := hW.2.2.2 q hq
    show s.heap.size ≤ q.base
    rw [← q5]
    exact this
  · refine W.widen (k := 600000) (n := 7302250) q6 q7 ?_
    exact lw_ret C.1 C.2.1 q1 q2 d
end GLAW
