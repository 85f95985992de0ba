/-! the cells in the order in which they are made, their shapes -/
def TCl : List g_Sh := [.inl (10, [some (some 1), some (some 2), some (some 13), some (some 16), some (some 22), some (some 54), some (some 59), some (some 63), some (some 67), some (some 69), some (some 74), some (some 76), none, none, none]),
  .inr (.inl 250),
  .inl (6, [some (some 3), some (some 6), some (some 12), none, none, none, none, none, none, none, none, none]),
  .inl (7, [some (some 4), some (some 5), none, none, none, none]),
  .inr (.inl 8),
  .inr (.inl 4),
  .inl (4, [some (some 7), some (some 8), some (some 9), some (some 10), some (some 11), none, none, none]),
  .inr (.inl 6),
  .inr (.inl 6),
  .inr (.inl 8),
  .inr (.inl 8),
  .inr (.inl 8),
  .inr (.inl 4),
  .inl (7, [some (some 14), some (some 15), none, none, none, none]),
  .inr (.inl 8),
  .inr (.inl 4),
  .inl (4, [some (some 17), some (some 18), some (some 19), some (some 20), some (some 21), none, none, none]),
  .inr (.inl 6),
  .inr (.inl 6),
  .inr (.inl 8),
  .inr (.inl 8),
  .inr (.inl 8),
  .inl (5, [some (some 23), none, none]),
  .inr (.inr (.inr (30, 24))),
  .inr (.inl 39),
  .inr (.inl 39),
  .inr (.inl 39),
  .inr (.inl 39),
  .inr (.inl 39),
  .inr (.inl 39),
  .inr (.inl 39),
  .inr (.inl 39),
  .inr (.inl 39),
  .inr (.inl 39),
  .inr (.inl 39),
  .inr (.inl 39),
  .inr (.inl 39),
  .inr (.inl 39),
  .inr (.inl 39),
  .inr (.inl 39),
  .inr (.inl 39),
  .inr (.inl 39),
  .inr (.inl 39),
  .inr (.inl 39),
  .inr (.inl 39),
  .inr (.inl 39),
  .inr (.inl 39),
  .inr (.inl 39),
  .inr (.inl 39),
  .inr (.inl 39),
  .inr (.inl 39),
  .inr (.inl 39),
  .inr (.inl 39),
  .inr (.inl 39),
  .inl (3, [some (some 55), some (some 58), none]),
  .inr (.inr (.inr (2, 56))),
  .inr (.inl 39),
  .inr (.inl 39),
  .inr (.inl 2),
  .inl (2, [some (some 60), some (some 61), some (some 62), none, none, none]),
  .inr (.inr (.inl 256)),
  .inr (.inl 70),
  .inr (.inr (.inl 9)),
  .inl (9, [some (some 64), some (some 65), some (some 66), none]),
  .inr (.inl 6),
  .inr (.inl 64),
  .inr (.inl 6),
  .inl (8, [some (some 68), none]),
  .inr (.inl 8),
  .inl (1, [some (some 70), some (some 71), some (some 72), some (some 73), none, none, none, none]),
  .inr (.inl 6),
  .inr (.inl 6),
  .inr (.inl 4),
  .inr (.inl 4),
  .inl (0, [some (some 75), none]),
  .inr (.inl 20),
  .inr (.inl 6),
  .inl (11, [some (some 78), some (some 79), some (some 80), none, none, none, none, some (some 81), none, none, some (some 82), some (some 83), some (some 84), some (some 85), some (some 86), some (some 87), some (some 88), none, some (some 89), none, some (some 90), none, some (some 91), none, none, none, some (some 92)]),
  .inr (.inl 45),
  .inr (.inl 45),
  .inr (.inl 250),
  .inr (.inl 39),
  .inr (.inl 1170),
  .inr (.inl 10),
  .inr (.inl 256),
  .inr (.inl 256),
  .inr (.inl 39),
  .inr (.inl 6),
  .inr (.inl 6),
  .inr (.inl 8),
  .inr (.inl 6),
  .inr (.inl 20),
  .inr (.inl 82)]
def TC (c : Nat) : g_Sh := TCl.getD c (.inr (.inl 0))
def g_ag (L : List Nat) (n : Nat) (T : Nat → g_Sh) : Prop := ∀ c, L.contains c = true → g_has n T c (TC c)
theorem g_ag_at {L : List Nat} {n c : Nat} {T : Nat → g_Sh} {sh : g_Sh} (hA : g_ag L n T) (hc : L.contains c = true) (ht : TC c = sh) : g_has n T c sh := ⟨(hA c hc).1, (hA c hc).2.trans ht⟩
theorem g_ag_sub {L L2 : List Nat} {n : Nat} {T : Nat → g_Sh} (hA : g_ag L n T) (h : L2.all (fun c => L.contains c) = true) : g_ag L2 n T := fun c hc => hA c (List.all_eq_true.mp h c (List.contains_iff_mem.mp hc))
theorem g_rowh {L : List Nat} {n b0 cnt m : Nat} {T : Nat → g_Sh} {i : Int32} (hA : g_ag L n T) (hL : (List.range cnt).all (fun j => L.contains (b0 + j) && decide (TC (b0 + j) = .inr (.inl m))) = true) (h : g_in i cnt) : g_has n T (b0 + i.toNatClampNeg) (.inr (.inl m)) := by
  have hlt : i.toNatClampNeg < cnt := by
    have h1 := g_in_vp h
    exact Nat.not_le.mp fun q => h1 (Or.inr q)
  have h2 := List.all_eq_true.mp hL _ (List.mem_range.mpr hlt)
  simp only [Bool.and_eq_true, decide_eq_true_eq] at h2
  exact g_ag_at hA h2.1 h2.2
theorem tc0 : TC 0 = .inl (10, [some (some 1), some (some 2), some (some 13), some (some 16), some (some 22), some (some 54), some (some 59), some (some 63), some (some 67), some (some 69), some (some 74), some (some 76), none, none, none]) := rfl
theorem tc1 : TC 1 = .inr (.inl 250) := rfl
theorem tc2 : TC 2 = .inl (6, [some (some 3), some (some 6), some (some 12), none, none, none, none, none, none, none, none, none]) := rfl
theorem tc3 : TC 3 = .inl (7, [some (some 4), some (some 5), none, none, none, none]) := rfl
theorem tc4 : TC 4 = .inr (.inl 8) := rfl
theorem tc5 : TC 5 = .inr (.inl 4) := rfl
theorem tc6 : TC 6 = .inl (4, [some (some 7), some (some 8), some (some 9), some (some 10), some (some 11), none, none, none]) := rfl
theorem tc7 : TC 7 = .inr (.inl 6) := rfl
theorem tc8 : TC 8 = .inr (.inl 6) := rfl
theorem tc9 : TC 9 = .inr (.inl 8) := rfl
theorem tc10 : TC 10 = .inr (.inl 8) := rfl
theorem tc11 : TC 11 = .inr (.inl 8) := rfl
theorem tc12 : TC 12 = .inr (.inl 4) := rfl
theorem tc13 : TC 13 = .inl (7, [some (some 14), some (some 15), none, none, none, none]) := rfl
theorem tc14 : TC 14 = .inr (.inl 8) := rfl
theorem tc15 : TC 15 = .inr (.inl 4) := rfl
theorem tc16 : TC 16 = .inl (4, [some (some 17), some (some 18), some (some 19), some (some 20), some (some 21), none, none, none]) := rfl
theorem tc17 : TC 17 = .inr (.inl 6) := rfl
theorem tc18 : TC 18 = .inr (.inl 6) := rfl
theorem tc19 : TC 19 = .inr (.inl 8) := rfl
theorem tc20 : TC 20 = .inr (.inl 8) := rfl
theorem tc21 : TC 21 = .inr (.inl 8) := rfl
theorem tc22 : TC 22 = .inl (5, [some (some 23), none, none]) := rfl
theorem tc23 : TC 23 = .inr (.inr (.inr (30, 24))) := rfl
theorem tc24 : TC 24 = .inr (.inl 39) := rfl
theorem tc25 : TC 25 = .inr (.inl 39) := rfl
theorem tc26 : TC 26 = .inr (.inl 39) := rfl
theorem tc27 : TC 27 = .inr (.inl 39) := rfl
theorem tc28 : TC 28 = .inr (.inl 39) := rfl
theorem tc29 : TC 29 = .inr (.inl 39) := rfl
theorem tc30 : TC 30 = .inr (.inl 39) := rfl
theorem tc31 : TC 31 = .inr (.inl 39) := rfl
theorem tc32 : TC 32 = .inr (.inl 39) := rfl
theorem tc33 : TC 33 = .inr (.inl 39) := rfl
theorem tc34 : TC 34 = .inr (.inl 39) := rfl
theorem tc35 : TC 35 = .inr (.inl 39) := rfl
theorem tc36 : TC 36 = .inr (.inl 39) := rfl
theorem tc37 : TC 37 = .inr (.inl 39) := rfl
theorem tc38 : TC 38 = .inr (.inl 39) := rfl
theorem tc39 : TC 39 = .inr (.inl 39) := rfl
theorem tc40 : TC 40 = .inr (.inl 39) := rfl
theorem tc41 : TC 41 = .inr (.inl 39) := rfl
theorem tc42 : TC 42 = .inr (.inl 39) := rfl
theorem tc43 : TC 43 = .inr (.inl 39) := rfl
theorem tc44 : TC 44 = .inr (.inl 39) := rfl
theorem tc45 : TC 45 = .inr (.inl 39) := rfl
theorem tc46 : TC 46 = .inr (.inl 39) := rfl
theorem tc47 : TC 47 = .inr (.inl 39) := rfl
theorem tc48 : TC 48 = .inr (.inl 39) := rfl
theorem tc49 : TC 49 = .inr (.inl 39) := rfl
theorem tc50 : TC 50 = .inr (.inl 39) := rfl
theorem tc51 : TC 51 = .inr (.inl 39) := rfl
theorem tc52 : TC 52 = .inr (.inl 39) := rfl
theorem tc53 : TC 53 = .inr (.inl 39) := rfl
theorem tc54 : TC 54 = .inl (3, [some (some 55), some (some 58), none]) := rfl
theorem tc55 : TC 55 = .inr (.inr (.inr (2, 56))) := rfl
theorem tc56 : TC 56 = .inr (.inl 39) := rfl
theorem tc57 : TC 57 = .inr (.inl 39) := rfl
theorem tc58 : TC 58 = .inr (.inl 2) := rfl
theorem tc59 : TC 59 = .inl (2, [some (some 60), some (some 61), some (some 62), none, none, none]) := rfl
theorem tc60 : TC 60 = .inr (.inr (.inl 256)) := rfl
theorem tc61 : TC 61 = .inr (.inl 70) := rfl
theorem tc62 : TC 62 = .inr (.inr (.inl 9)) := rfl
theorem tc63 : TC 63 = .inl (9, [some (some 64), some (some 65), some (some 66), none]) := rfl
theorem tc64 : TC 64 = .inr (.inl 6) := rfl
theorem tc65 : TC 65 = .inr (.inl 64) := rfl
theorem tc66 : TC 66 = .inr (.inl 6) := rfl
theorem tc67 : TC 67 = .inl (8, [some (some 68), none]) := rfl
theorem tc68 : TC 68 = .inr (.inl 8) := rfl
theorem tc69 : TC 69 = .inl (1, [some (some 70), some (some 71), some (some 72), some (some 73), none, none, none, none]) := rfl
theorem tc70 : TC 70 = .inr (.inl 6) := rfl
theorem tc71 : TC 71 = .inr (.inl 6) := rfl
theorem tc72 : TC 72 = .inr (.inl 4) := rfl
theorem tc73 : TC 73 = .inr (.inl 4) := rfl
theorem tc74 : TC 74 = .inl (0, [some (some 75), none]) := rfl
theorem tc75 : TC 75 = .inr (.inl 20) := rfl
theorem tc76 : TC 76 = .inr (.inl 6) := rfl
theorem tc77 : TC 77 = .inl (11, [some (some 78), some (some 79), some (some 80), none, none, none, none, some (some 81), none, none, some (some 82), some (some 83), some (some 84), some (some 85), some (some 86), some (some 87), some (some 88), none, some (some 89), none, some (some 90), none, some (some 91), none, none, none, some (some 92)]) := rfl
theorem tc78 : TC 78 = .inr (.inl 45) := rfl
theorem tc79 : TC 79 = .inr (.inl 45) := rfl
theorem tc80 : TC 80 = .inr (.inl 250) := rfl
theorem tc81 : TC 81 = .inr (.inl 39) := rfl
theorem tc82 : TC 82 = .inr (.inl 1170) := rfl
theorem tc83 : TC 83 = .inr (.inl 10) := rfl
theorem tc84 : TC 84 = .inr (.inl 256) := rfl
theorem tc85 : TC 85 = .inr (.inl 256) := rfl
theorem tc86 : TC 86 = .inr (.inl 39) := rfl
theorem tc87 : TC 87 = .inr (.inl 6) := rfl
theorem tc88 : TC 88 = .inr (.inl 6) := rfl
theorem tc89 : TC 89 = .inr (.inl 8) := rfl
theorem tc90 : TC 90 = .inr (.inl 6) := rfl
theorem tc91 : TC 91 = .inr (.inl 20) := rfl
theorem tc92 : TC 92 = .inr (.inl 82) := rfl
