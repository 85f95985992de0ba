/-! what a state of the system is: a town, a moment, and what was noted -/
abbrev Tw : Type := (Nat × Nat × Nat × Nat) × (Nat → Nat) × (Nat → Nat)
abbrev tP (w : Tw) : Nat := w.1.1
abbrev tK (w : Tw) : Nat := w.1.2.1
abbrev tY (w : Tw) : Nat := w.1.2.2.1
abbrev tR (w : Tw) : Nat := w.1.2.2.2
abbrev tG (w : Tw) : Nat → Nat := w.2.1
abbrev tW (w : Tw) : Nat → Nat := w.2.2
abbrev Nw : Type := (Nat × Nat × Nat) × (Nat → Nat) × (Nat → Nat) × (Nat → Nat) × (Nat → Option Nat) × (Nat → Nat)
abbrev nY (v : Nw) : Nat := v.1.1
abbrev nD (v : Nw) : Nat := v.1.2.1
abbrev nS (v : Nw) : Nat := v.1.2.2
abbrev nA (v : Nw) : Nat → Nat := v.2.1
abbrev nC (v : Nw) : Nat → Nat := v.2.2.1
abbrev nH (v : Nw) : Nat → Nat := v.2.2.2.1
abbrev nL (v : Nw) : Nat → Option Nat := v.2.2.2.2.1
abbrev nP (v : Nw) : Nat → Nat := v.2.2.2.2.2
def plv : Option Nat → Int32
  | none => -1
  | some p => nI p
def TwOK (w : Tw) : Prop := tP w ≤ 6 ∧ tK w ≤ 8 ∧ 1 ≤ tY w ∧ tY w ≤ 8 ∧ tR w ≤ 1 ∧ (∀ r, r < 4 → tG w r ≤ 99) ∧ (∀ t, t < tK w → 1 ≤ tW w t ∧ tW w t ≤ 9) ∧ (0 < tK w → 0 < tP w)
def NwOK (w : Tw) (v : Nw) : Prop := nY v ≤ 90200 ∧ nD v < tY w ∧ nS v < 2 ^ tK w ∧ (0 < tK w → 0 < nS v) ∧ (∀ p, p < tP w → nA v p ≤ 999 ∧ nC v p ≤ 9999) ∧ (∀ t, t < tK w → nH v t < tP w ∧ (∀ q, nL v t = some q → q < tP w) ∧ nP v t ≤ 99)
/-- the reference's town and moment, as its rows hold them -/
def RT (w : Tw) (f : Nat → Int32) : Prop := f 0 = nI (tP w) ∧ f 1 = nI (tK w) ∧ f 2 = nI (tY w) ∧ f 3 = nI (tR w) ∧ (∀ r, r < 4 → f (5 + r) = nI (tG w r)) ∧ (∀ t, t < tK w → f (21 + 3 * t + 1) = nI (tW w t))
def RN (w : Tw) (v : Nw) (f : Nat → Int32) : Prop := f 0 = nI (nY v) ∧ f 1 = nI (nD v) ∧ f 2 = nI (nS v) ∧ (∀ p, p < tP w → f (3 + 2 * p) = nI (nA v p) ∧ f (3 + 2 * p + 1) = nI (nC v p)) ∧ (∀ t, t < tK w → f (15 + 3 * t) = nI (nH v t) ∧ f (15 + 3 * t + 1) = plv (nL v t) ∧ f (15 + 3 * t + 2) = nI (nP v t))
/-- the class's town and moment -/
def CT (w : Tw) (σ : g_St) : Prop := σ.1 13 2 = nI (tP w) ∧ σ.1 13 3 = nI (tK w) ∧ σ.1 13 4 = nI (tY w) ∧ σ.1 13 5 = nI (tR w) ∧ (∀ r, r < 4 → σ.1 15 r = nI (tG w r)) ∧ (∀ t, t < tK w → σ.1 14 t = nI (tW w t))
def CN (w : Tw) (v : Nw) (σ : g_St) : Prop := σ.1 16 6 = nI (nY v) ∧ σ.1 16 7 = nI (nD v) ∧ σ.1 16 5 = nI (nS v) ∧ (∀ p, p < tP w → σ.1 17 p = nI (nA v p) ∧ σ.1 18 p = nI (nC v p)) ∧ (∀ t, t < tK w → σ.1 19 t = nI (nH v t) ∧ σ.1 20 t = plv (nL v t) ∧ σ.1 21 t = nI (nP v t))
/-- a moment packed into a row -/
def PN (w : Tw) (v : Nw) (f : Nat → Int32) : Prop := f 1 = nI (nY v) ∧ f 2 = nI (nD v) ∧ f 0 = nI (nS v) ∧ (∀ p, p < tP w → f (3 + p) = nI (nA v p) ∧ f (9 + p) = nI (nC v p)) ∧ (∀ t, t < tK w → f (15 + t) = nI (nH v t) ∧ f (23 + t) = plv (nL v t) ∧ f (31 + t) = nI (nP v t))
/-- ((town, moment), (seed, undos oldest first, images), (seen, candles lit, told ages), (register), (letters, place of the fault)) -/
abbrev Dt : Type := (Tw × Nw) × (Nat × List Nw × (Nat → Option (Nat × Nw))) × (List Nat × Nat × (Nat → Nat)) × List Nat × (List Nat × Int32)
abbrev dT (d : Dt) : Tw := d.1.1
abbrev dN (d : Dt) : Nw := d.1.2
abbrev dSeed (d : Dt) : Nat := d.2.1.1
abbrev dU (d : Dt) : List Nw := d.2.1.2.1
abbrev dK (d : Dt) : Nat → Option (Nat × Nw) := d.2.1.2.2
abbrev dSeen (d : Dt) : List Nat := d.2.2.1.1
abbrev dLit (d : Dt) : Nat := d.2.2.1.2.1
abbrev dTold (d : Dt) : Nat → Nat := d.2.2.1.2.2
abbrev dBook (d : Dt) : List Nat := d.2.2.2.1
abbrev dLet (d : Dt) : List Nat := d.2.2.2.2.1
abbrev dFa (d : Dt) : Int32 := d.2.2.2.2.2
/-- with return the drum stays full -/
def FR (d : Dt) : Prop := tR (dT d) = 1 → nS (dN d) = 2 ^ tK (dT d) - 1 ∧ (∀ v ∈ dU d, nS v = 2 ^ tK (dT d) - 1) ∧ (∀ i s v, dK d i = some (s, v) → nS v = 2 ^ tK (dT d) - 1)
def OK (d : Dt) : Prop := TwOK (dT d) ∧ NwOK (dT d) (dN d) ∧ (dSeed d < 2 ^ 31 ∧ FR d) ∧ ((dU d).length ≤ 30 ∧ ∀ v ∈ dU d, NwOK (dT d) v) ∧ (∀ i s v, dK d i = some (s, v) → s < 2 ^ 31 ∧ NwOK (dT d) v) ∧ ((dSeen d).length ≤ 8 ∧ ∀ t ∈ dSeen d, t < tK (dT d)) ∧ (dLit d < 2 ^ tP (dT d) ∧ ∀ p, p < tP (dT d) → dTold d p ≤ 999) ∧ ((dBook d).length ≤ 20 ∧ ∀ t ∈ dBook d, t < tK (dT d)) ∧ ((dLet d).length ≤ 250 ∧ ∀ c ∈ dLet d, c < 256)
def lsI (l : List Nat) (f : Nat → Int32) : Prop := ∀ i, i < l.length → f i = nI (l.getD i 0)
/-- the reference's cells hold d -/
def RRa (d : Dt) (σ : g_St) : Prop := RT (dT d) (σ.1 79) ∧ RN (dT d) (dN d) (σ.1 81) ∧ σ.1 77 8 = nI (dSeed d)
def RRu (d : Dt) (σ : g_St) : Prop := σ.1 77 9 = nI (dU d).length ∧ (∀ i v, (dU d)[i]? = some v → RN (dT d) v (fun j => σ.1 82 (39 * i + j)))
def RRk (d : Dt) (σ : g_St) : Prop := ∀ i, i < 2 → (dK d i = none → σ.1 92 (41 * i) = 0) ∧ ∀ s v, dK d i = some (s, v) → σ.1 92 (41 * i) = 1 ∧ σ.1 92 (41 * i + 1) = nI s ∧ RN (dT d) v (fun j => σ.1 92 (41 * i + 2 + j))
def RRs (d : Dt) (σ : g_St) : Prop := σ.1 77 17 = nI (dSeen d).length ∧ lsI (dSeen d) (σ.1 89) ∧ σ.1 77 19 = nI (dLit d) ∧ (∀ p, p < tP (dT d) → bt (dLit d) p = true → σ.1 90 p = nI (dTold d p)) ∧ σ.1 77 21 = nI (dBook d).length ∧ lsI (dBook d) (σ.1 91) ∧ σ.1 77 3 = nI (dLet d).length ∧ lsI (dLet d) (σ.1 80) ∧ σ.1 77 6 = dFa d
def RR (d : Dt) (σ : g_St) : Prop := RRa d σ ∧ RRu d σ ∧ RRk d σ ∧ RRs d σ
/-- the class's cells hold d -/
def CCa (d : Dt) (σ : g_St) : Prop := CT (dT d) σ ∧ CN (dT d) (dN d) σ ∧ σ.1 0 14 = nI (dSeed d)
def CCu (d : Dt) (σ : g_St) : Prop := σ.1 22 2 = nI (dU d).length ∧ ∃ nx, nx < 30 ∧ σ.1 22 1 = nI nx ∧ (∀ i v, (dU d)[i]? = some v → PN (dT d) v (σ.1 (24 + (nx + 30 - (dU d).length + i) % 30)))
def CCk (d : Dt) (σ : g_St) : Prop := ∃ kb, (kb < 4 ∧ σ.1 6 6 = 0 ∧ σ.1 6 7 = 0) ∧ σ.1 54 2 = nI kb ∧ ∀ i, i < 2 → (dK d i = none → bt kb i = false) ∧ ∀ s v, dK d i = some (s, v) → bt kb i = true ∧ σ.1 58 i = nI s ∧ PN (dT d) v (σ.1 (56 + i))
def CCs (d : Dt) (σ : g_St) : Prop := σ.1 67 1 = nI (dSeen d).length ∧ lsI (dSeen d) (σ.1 68) ∧ σ.1 69 4 = nI (dLit d) ∧ (∀ p, p < tP (dT d) → bt (dLit d) p = true → σ.1 70 p = nI (dTold d p)) ∧ σ.1 74 1 = nI (dBook d).length ∧ lsI (dBook d) (σ.1 75) ∧ σ.1 0 12 = nI (dLet d).length ∧ lsI (dLet d) (σ.1 1) ∧ σ.1 0 13 = dFa d
def CC (d : Dt) (σ : g_St) : Prop := CCa d σ ∧ CCu d σ ∧ CCk d σ ∧ CCs d σ
/-- cells of one side are as they were -/
def keepC (σ τ : g_St) : Prop := ∀ c, c < 77 → τ.1 c = σ.1 c ∧ τ.2 c = σ.2 c
def keepR (σ τ : g_St) : Prop := ∀ c, 77 ≤ c → τ.1 c = σ.1 c ∧ τ.2 c = σ.2 c
