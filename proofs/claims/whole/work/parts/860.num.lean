/-! numbers: an int as nI of a natural number -/
theorem lit_nI (n : Nat) : (OfNat.ofNat n : Int32) = nI n := by
  have h : nI n = nI n := Eq.refl _
  exact h.symm.symm
theorem u_in {k n : Nat} (hk : k < 2 ^ 31) : g_in (nI k) n ↔ k < n := by
  unfold g_in
  rw [nI_toInt hk]
  omega
theorem u_lt {a b : Nat} (ha : a < 2 ^ 31) (hb : b < 2 ^ 31) : (nI a < nI b) = (a < b) := propext (nI_ltI ha hb)
theorem u_le {a b : Nat} (ha : a < 2 ^ 31) (hb : b < 2 ^ 31) : (nI a ≤ nI b) = (a ≤ b) := propext (nI_leI ha hb)
theorem u_eq {a b : Nat} (ha : a < 2 ^ 31) (hb : b < 2 ^ 31) : (nI a = nI b) = (a = b) := propext (nI_eq ha hb)
theorem u_inE {k n : Nat} (hk : k < 2 ^ 31) : g_in (nI k) n = (k < n) := propext (u_in hk)
/-- minus one, as nobody -/
theorem u_m1 {a : Nat} (ha : a < 2 ^ 31) : (nI a = -1) = False := by
  refine eq_false (fun h => ?_)
  have h1 : (nI a).toInt = (-1 : Int32).toInt := by rw [h]
  rw [nI_toInt ha] at h1
  have h2 : (-1 : Int32).toInt = -1 := by decide
  omega
/-- bits of sets below 256 -/
def bt (S t : Nat) : Bool := S.testBit t
def cl (S t : Nat) : Nat := if bt S t then S - 2 ^ t else S
def st1 (S t : Nat) : Nat := S ||| 2 ^ t
theorem u_bit : ∀ S, S < 256 → ∀ t, t < 8 → (nI S >>> (nI t &&& 31)) &&& 1 = nI (if bt S t then 1 else 0) := by decide +kernel
theorem u_shl : ∀ t, t < 9 → (1 : Int32) <<< (nI t &&& 31) = nI (2 ^ t) := by decide +kernel
theorem u_clr : ∀ S, S < 256 → ∀ t, t < 8 → nI S &&& (((1 : Int32) <<< (nI t &&& 31)) ^^^ (-1)) = nI (cl S t) := by decide +kernel
theorem u_or : ∀ S, S < 256 → ∀ t, t < 8 → nI S ||| nI (2 ^ t) = nI (st1 S t) := by decide +kernel
theorem u_all : ∀ K, K < 9 → ((1 : Int32) <<< (nI K &&& 31)) - 1 = nI (2 ^ K - 1) := by decide +kernel
theorem u_cl_lt : ∀ S, S < 256 → ∀ t, t < 8 → cl S t ≤ S := by decide +kernel
