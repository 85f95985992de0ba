/-! m_X0_add -/
def m_X0_add (x1 : Int32) (σ : g_St) : Option (Int32 × g_St) := (if (20 : Int32) ≤ (σ.1 74 1) then some ((σ.1 74 1), σ)
   else (if g_in (σ.1 74 1) 20 then (g_lt (g_sI σ 75 (σ.1 74 1).toNatClampNeg x1) fun σ3 => (g_lt (g_sI σ3 74 1 ((σ3.1 74 1) + (1 : Int32))) fun σ4 => some ((σ4.1 74 1), σ4))) else none))
/-! m_X10_holds -/
def m_X10_holds (x0 : Int32) (x1 : Int32) (σ : g_St) : Option (Int32 × g_St) := (if ((x0 >>> (x1 &&& 31)) &&& (1 : Int32)) = 0 then some ((0 : Int32), σ)
   else some ((1 : Int32), σ))
/-! m_X7_drumWithout -/
def m_X7_drumWithout (x1 : Int32) (x2 : Int32) (σ : g_St) : Option (Int32 × g_St) := (if (σ.1 13 5) = 0 then some ((x1 &&& (((1 : Int32) <<< (x2 &&& 31)) ^^^ (-1 : Int32))), σ)
   else some (x1, σ))
/-! m_X7_endsYear -/
def m_X7_endsYear_19 (σ : g_St) : Option (Int32 × g_St) := some ((1 : Int32), σ)
def m_X7_endsYear (x1 : Int32) (x2 : Int32) (x3 : Int32) (σ : g_St) : Option (Int32 × g_St) := (if (σ.1 13 4) ≤ (x2 + (1 : Int32)) then m_X7_endsYear_19 σ
   else ((m_X7_drumWithout x1 x3 σ).bind fun q2 => (if q2.1 = 0 then m_X7_endsYear_19 q2.2
   else some ((0 : Int32), q2.2))))
/-! m_X7_everyTicket -/
def m_X7_everyTicket (σ : g_St) : Option (Int32 × g_St) := some ((((1 : Int32) <<< ((σ.1 13 3) &&& 31)) - (1 : Int32)), σ)
/-! m_X7_drumAfter -/
def m_X7_drumAfter (x1 : Int32) (x2 : Int32) (x3 : Int32) (σ : g_St) : Option (Int32 × g_St) := ((m_X7_endsYear x1 x2 x3 σ).bind fun q1 => (if q1.1 = 0 then ((m_X7_drumWithout x1 x3 q1.2).bind fun q3 => some (q3.1, q3.2))
   else ((m_X7_everyTicket q1.2).bind fun q4 => some (q4.1, q4.2))))
/-! m_X7_drawsAfter -/
def m_X7_drawsAfter (x1 : Int32) (x2 : Int32) (x3 : Int32) (σ : g_St) : Option (Int32 × g_St) := ((m_X7_endsYear x1 x2 x3 σ).bind fun q1 => (if q1.1 = 0 then some ((x2 + (1 : Int32)), q1.2)
   else some ((0 : Int32), q1.2)))
/-! m_X0_wrong -/
def m_X0_wrong_14 (N : Nat) : Nat → Int32 → Int32 → Int32 → g_St → Option (Int32 × g_St)
  | 0, _, _, _, _ => none
  | fu + 1, x3, x4, x5, σ => (if (σ.1 74 1) ≤ x5 then some ((-1 : Int32), σ)
   else (if g_in x5 20 then (g_lt (σ.1 75 x5.toNatClampNeg) fun v3 => ((m_X10_holds x3 v3 σ).bind fun q4 => (if q4.1 = 0 then some (x5, q4.2)
   else ((m_X7_drumAfter x3 x4 v3 q4.2).bind fun q6 => ((m_X7_drawsAfter x3 x4 v3 q6.2).bind fun q7 => (g_lt (x5 + (1 : Int32)) fun v8 => m_X0_wrong_14 N fu q6.1 q7.1 v8 q7.2)))))) else none))
def m_X0_wrong (N : Nat) (σ : g_St) : Option (Int32 × g_St) := (g_lt (σ.1 16 5) fun v1 => (g_lt (σ.1 16 7) fun v2 => m_X0_wrong_14 N N v1 v2 (0 : Int32) σ))
/-! m_X4_whoAges -/
def m_X4_whoAges (x1 : Int32) (σ : g_St) : Option (Int32 × g_St) := (if x1 < 0 then some ((-1 : Int32), σ)
   else (if x1 < (8 : Int32) then (if g_in x1 8 then (if (σ.1 20 x1.toNatClampNeg) = (-1 : Int32) then (if g_in x1 8 then some ((σ.1 19 x1.toNatClampNeg), σ) else none)
   else (if g_in x1 8 then some ((σ.1 20 x1.toNatClampNeg), σ) else none)) else none)
   else some ((-1 : Int32), σ)))
/-! m_X10_older -/
def m_X10_older (x0 : Int32) (σ : g_St) : Option (Int32 × g_St) := some ((if (x0 + (1 : Int32)) < (999 : Int32) then (x0 + (1 : Int32)) else (999 : Int32)), σ)
/-! m_X0_ageBehind -/
def m_X0_ageBehind_65 (k36 : Int32 → Int32 → Int32 → Int32 → g_St → Option (Int32 × g_St)) (N : Nat) (x3 : Int32) (x5 : Int32) (x6 : Int32) (x7 : Int32) (σ : g_St) : Option (Int32 × g_St) := (g_lt (x7 + (1 : Int32)) fun v1 => k36 x3 x5 x6 v1 σ)
def m_X0_ageBehind_36 (N : Nat) : Nat → Int32 → Int32 → Int32 → Int32 → g_St → Option (Int32 × g_St)
  | 0, _, _, _, _, _ => none
  | fu + 1, x3, x5, x6, x7, σ => (if x5 ≤ x7 then some (x6, σ)
   else (if g_in x7 20 then ((m_X4_whoAges (σ.1 75 x7.toNatClampNeg) σ).bind fun q3 => (if q3.1 = x3 then ((m_X10_older x6 q3.2).bind fun q5 => m_X0_ageBehind_65 (m_X0_ageBehind_36 N fu) N x3 x5 q5.1 x7 q5.2)
   else m_X0_ageBehind_65 (m_X0_ageBehind_36 N fu) N x3 x5 x6 x7 q3.2)) else none))
def m_X0_ageBehind_23 (N : Nat) (x3 : Int32) (s0 : Int32) (σ : g_St) : Option (Int32 × g_St) := (if g_in x3 6 then (g_lt (σ.1 17 x3.toNatClampNeg) fun v2 => m_X0_ageBehind_36 N N x3 s0 v2 (0 : Int32) σ) else none)
def m_X0_ageBehind (N : Nat) (x3 : Int32) (σ : g_St) : Option (Int32 × g_St) := ((m_X0_wrong N σ).bind fun q1 => (if q1.1 = (-1 : Int32) then m_X0_ageBehind_23 N x3 (q1.2.1 74 1) q1.2
   else m_X0_ageBehind_23 N x3 q1.1 q1.2))
/-! m_X1_light -/
def m_X1_light (x1 : Int32) (x2 : Int32) (σ : g_St) : Option (Int32 × g_St) := (if g_in x1 6 then (g_lt (g_sI σ 70 x1.toNatClampNeg x2) fun σ2 => (g_lt (g_sI σ2 69 4 ((σ2.1 69 4) ||| ((1 : Int32) <<< (x1 &&& 31)))) fun σ3 => some ((σ3.1 69 4), σ3))) else none)
/-! m_X1_noteRow -/
def m_X1_noteRow_35 (N : Nat) : Nat → Int32 → Int32 → g_St → Option (g_St)
  | 0, _, _, _ => none
  | fu + 1, x1, x2, σ => (if (σ.1 69 7) ≤ x2 then (g_lt (g_sI σ 69 6 ((σ.1 69 6) &&& x1)) fun σ2 => some σ2)
   else (if g_in x2 4 then (g_lt (x1 ||| ((1 : Int32) <<< ((σ.1 72 x2.toNatClampNeg) &&& 31))) fun v4 => (g_lt (x2 + (1 : Int32)) fun v5 => m_X1_noteRow_35 N fu v4 v5 σ)) else none))
def m_X1_noteRow_21 (N : Nat) (σ : g_St) : Option (g_St) := (g_lt (g_sI σ 69 5 ((σ.1 69 5) + (1 : Int32))) fun σ1 => m_X1_noteRow_35 N N (0 : Int32) (0 : Int32) σ1)
def m_X1_noteRow (N : Nat) (σ : g_St) : Option (g_St) := (if (σ.1 69 5) = 0 then (g_lt (g_sA σ 73 (va_cpy (σ.1 72) (σ.1 73) 0 0 4)) fun σ2 => m_X1_noteRow_21 N σ2)
   else m_X1_noteRow_21 N σ)
/-! m_X1_extend -/
def m_X1_extend_25 (rc : Int32 → Int32 → Int32 → Int32 → g_St → Option (g_St)) (N : Nat) (σ : g_St) : Option (g_St) := ((m_X1_noteRow N σ).bind fun σ1 => some σ1)
def m_X1_extend_207 (rc : Int32 → Int32 → Int32 → Int32 → g_St → Option (g_St)) (k33 : Int32 → Int32 → Int32 → Int32 → Int32 → g_St → Option (g_St)) (N : Nat) (x3 : Int32) (x4 : Int32) (x5 : Int32) (x6 : Int32) (x7 : Int32) (σ : g_St) : Option (g_St) := (g_lt (x7 + (1 : Int32)) fun v1 => k33 x3 x4 x5 x6 v1 σ)
def m_X1_extend_164 (rc : Int32 → Int32 → Int32 → Int32 → g_St → Option (g_St)) (k33 : Int32 → Int32 → Int32 → Int32 → Int32 → g_St → Option (g_St)) (N : Nat) (x3 : Int32) (x4 : Int32) (x5 : Int32) (x6 : Int32) (x7 : Int32) (x8 : Int32) (x9 : Int32) (x10 : Int32) (x12 : Int32) (x13 : Int32) (s0 : Int32) (σ : g_St) : Option (g_St) := (if g_in x3 4 then (g_lt (g_sI σ 72 x3.toNatClampNeg x7) fun σ2 => (if g_in x8 6 then (g_lt (g_sI σ2 71 x8.toNatClampNeg x10) fun σ4 => ((rc (x3 + (1 : Int32)) x12 x13 s0 σ4).bind fun σ5 => (if g_in x8 6 then (g_lt (g_sI σ5 71 x8.toNatClampNeg x9) fun σ7 => m_X1_extend_207 rc k33 N x3 x4 x5 x6 x7 σ7) else none))) else none)) else none)
def m_X1_extend_122 (rc : Int32 → Int32 → Int32 → Int32 → g_St → Option (g_St)) (k33 : Int32 → Int32 → Int32 → Int32 → Int32 → g_St → Option (g_St)) (N : Nat) (x3 : Int32) (x4 : Int32) (x5 : Int32) (x6 : Int32) (x7 : Int32) (x8 : Int32) (x9 : Int32) (x10 : Int32) (x11 : Int32) (σ : g_St) : Option (g_St) := ((m_X7_drumAfter x4 x5 x7 σ).bind fun q1 => ((m_X7_drawsAfter x4 x5 x7 q1.2).bind fun q2 => (if x11 = 0 then m_X1_extend_164 rc k33 N x3 x4 x5 x6 x7 x8 x9 x10 q1.1 q2.1 x6 q2.2
   else m_X1_extend_164 rc k33 N x3 x4 x5 x6 x7 x8 x9 x10 q1.1 q2.1 (x6 - (x10 - x9)) q2.2)))
def m_X1_extend_33 (rc : Int32 → Int32 → Int32 → Int32 → g_St → Option (g_St)) (N : Nat) : Nat → Int32 → Int32 → Int32 → Int32 → Int32 → g_St → Option (g_St)
  | 0, _, _, _, _, _, _ => none
  | fu + 1, x3, x4, x5, x6, x7, σ => (if (σ.1 13 3) ≤ x7 then some σ
   else ((m_X4_whoAges x7 σ).bind fun q2 => ((m_X10_holds x4 x7 q2.2).bind fun q3 => (if q3.1 = 0 then m_X1_extend_207 rc (m_X1_extend_33 rc N fu) N x3 x4 x5 x6 x7 q3.2
   else (if q2.1 < 0 then m_X1_extend_207 rc (m_X1_extend_33 rc N fu) N x3 x4 x5 x6 x7 q3.2
   else (if q2.1 < (6 : Int32) then (if g_in q2.1 6 then (g_lt (q3.2.1 71 q2.1.toNatClampNeg) fun v8 => ((m_X10_older v8 q3.2).bind fun q9 => ((m_X10_holds (q9.2.1 69 4) q2.1 q9.2).bind fun q10 => (if q10.1 = 0 then m_X1_extend_122 rc (m_X1_extend_33 rc N fu) N x3 x4 x5 x6 x7 q2.1 v8 q9.1 q10.1 q10.2
   else (if g_in q2.1 6 then (if q9.1 ≤ (q10.2.1 70 q2.1.toNatClampNeg) then m_X1_extend_122 rc (m_X1_extend_33 rc N fu) N x3 x4 x5 x6 x7 q2.1 v8 q9.1 q10.1 q10.2
   else m_X1_extend_207 rc (m_X1_extend_33 rc N fu) N x3 x4 x5 x6 x7 q10.2) else none))))) else none)
   else m_X1_extend_207 rc (m_X1_extend_33 rc N fu) N x3 x4 x5 x6 x7 q3.2))))))
def m_X1_extend_0 (rc : Int32 → Int32 → Int32 → Int32 → g_St → Option (g_St)) (N : Nat) (x3 : Int32) (x4 : Int32) (x5 : Int32) (x6 : Int32) (σ : g_St) : Option (g_St) := (if x6 ≤ ((σ.1 69 7) - x3) then (if (σ.1 69 7) ≤ x3 then m_X1_extend_25 rc N σ
   else (if x3 < (4 : Int32) then m_X1_extend_33 rc N N x3 x4 x5 x6 (0 : Int32) σ
   else m_X1_extend_25 rc N σ))
   else some σ)
def m_X1_extend (N : Nat) : Nat → Int32 → Int32 → Int32 → Int32 → g_St → Option (g_St)
  | 0, _, _, _, _, _ => none
  | fu + 1, x3, x4, x5, x6, σ => m_X1_extend_0 (m_X1_extend N fu) N x3 x4 x5 x6 σ
/-! m_X1_search -/
def m_X1_search_105 (k43 : Int32 → Int32 → g_St → Option (g_St)) (N : Nat) (x4 : Int32) (x5 : Int32) (σ : g_St) : Option (g_St) := (g_lt (x5 + (1 : Int32)) fun v1 => k43 x4 v1 σ)
def m_X1_search_43 (N : Nat) : Nat → Int32 → Int32 → g_St → Option (g_St)
  | 0, _, _, _ => none
  | fu + 1, x4, x5, σ => (if (σ.1 13 2) ≤ x5 then ((m_X1_extend N 5 (0 : Int32) (σ.1 16 5) (σ.1 16 7) x4 σ).bind fun σ2 => some σ2)
   else ((m_X10_holds (σ.1 69 4) x5 σ).bind fun q3 => (if q3.1 = 0 then m_X1_search_105 (m_X1_search_43 N fu) N x4 x5 q3.2
   else (if g_in x5 6 then (if g_in x5 6 then (if (q3.2.1 71 x5.toNatClampNeg) ≤ (q3.2.1 70 x5.toNatClampNeg) then (if g_in x5 6 then (if g_in x5 6 then (g_lt (x4 + ((q3.2.1 70 x5.toNatClampNeg) - (q3.2.1 71 x5.toNatClampNeg))) fun v10 => m_X1_search_105 (m_X1_search_43 N fu) N v10 x5 q3.2) else none) else none)
   else some q3.2) else none) else none))))
def m_X1_search (N : Nat) (x3 : Int32) (σ : g_St) : Option (g_St) := (g_lt (g_sA σ 71 (va_cpy (σ.1 17) (σ.1 71) 0 0 6)) fun σ1 => (g_lt (g_sI σ1 69 5 (0 : Int32)) fun σ2 => ((m_X7_everyTicket σ2).bind fun q3 => (g_lt (g_sI q3.2 69 6 q3.1) fun σ4 => (g_lt (g_sI σ4 69 7 (if (4 : Int32) < x3 then (4 : Int32) else x3)) fun σ5 => m_X1_search_43 N N (0 : Int32) (0 : Int32) σ5)))))
/-! m_X1_firstAt -/
def m_X1_firstAt (x1 : Int32) (σ : g_St) : Option (Int32 × g_St) := (if (σ.1 69 5) = 0 then some ((-1 : Int32), σ)
   else (if x1 < 0 then some ((-1 : Int32), σ)
   else (if x1 < (σ.1 69 7) then (if g_in x1 4 then some ((σ.1 73 x1.toNatClampNeg), σ) else none)
   else some ((-1 : Int32), σ))))
/-! m_X7_weightOf -/
def m_X7_weightOf_29 (k4 : Int32 → Int32 → Int32 → g_St → Option (Int32 × g_St)) (N : Nat) (x1 : Int32) (x2 : Int32) (x3 : Int32) (σ : g_St) : Option (Int32 × g_St) := (g_lt (x3 + (1 : Int32)) fun v1 => k4 x1 x2 v1 σ)
def m_X7_weightOf_4 (N : Nat) : Nat → Int32 → Int32 → Int32 → g_St → Option (Int32 × g_St)
  | 0, _, _, _, _ => none
  | fu + 1, x1, x2, x3, σ => (if (σ.1 13 3) ≤ x3 then some (x2, σ)
   else ((m_X10_holds x1 x3 σ).bind fun q2 => (if q2.1 = 0 then m_X7_weightOf_29 (m_X7_weightOf_4 N fu) N x1 x2 x3 q2.2
   else (if g_in x3 8 then (g_lt (x2 + (q2.2.1 14 x3.toNatClampNeg)) fun v5 => m_X7_weightOf_29 (m_X7_weightOf_4 N fu) N x1 v5 x3 q2.2) else none))))
def m_X7_weightOf (N : Nat) (x1 : Int32) (σ : g_St) : Option (Int32 × g_St) := m_X7_weightOf_4 N N x1 (0 : Int32) (0 : Int32) σ
/-! m_X2_handOn -/
def m_X2_handOn_67 (k15 : Int32 → Int32 → Int32 → g_St → Option (g_St)) (N : Nat) (x2 : Int32) (x3 : Int32) (x4 : Int32) (σ : g_St) : Option (g_St) := (g_lt (x4 + (1 : Int32)) fun v1 => k15 x2 x3 v1 σ)
def m_X2_handOn_15 (N : Nat) : Nat → Int32 → Int32 → Int32 → g_St → Option (g_St)
  | 0, _, _, _, _ => none
  | fu + 1, x2, x3, x4, σ => (if (σ.1 13 3) ≤ x4 then some σ
   else ((m_X10_holds x2 x4 σ).bind fun q2 => (if q2.1 = 0 then m_X2_handOn_67 (m_X2_handOn_15 N fu) N x2 x3 x4 q2.2
   else (g_lt (x2 &&& (((1 : Int32) <<< (x4 &&& 31)) ^^^ (-1 : Int32))) fun v4 => (if g_in v4 256 then (if g_in x2 256 then (if g_in x4 8 then (if (x3).toInt64 = 0 then none else (if g_in v4 256 then (g_lt (g_sL q2.2 60 v4.toNatClampNeg ((q2.2.2 60 v4.toNatClampNeg) + (((q2.2.2 60 x2.toNatClampNeg) * ((q2.2.1 14 x4.toNatClampNeg)).toInt64) / (x3).toInt64))) fun σ10 => m_X2_handOn_67 (m_X2_handOn_15 N fu) N x2 x3 x4 σ10) else none)) else none) else none) else none)))))
def m_X2_handOn (N : Nat) (x2 : Int32) (σ : g_St) : Option (g_St) := ((m_X7_weightOf N x2 σ).bind fun q1 => (if (1 : Int32) ≤ q1.1 then m_X2_handOn_15 N N x2 q1.1 (0 : Int32) q1.2
   else some q1.2))
/-! m_J7_fillL_60 -/
def m_J7_fillL_60_6 (N : Nat) : Nat → Int64 → Int32 → Int32 → g_St → Option (g_St)
  | 0, _, _, _, _ => none
  | fu + 1, x1, x3, x4, σ => (if x4 ≤ x3 then some σ
   else (if g_in x3 256 then (g_lt (g_sL σ 60 x3.toNatClampNeg x1) fun σ3 => (g_lt (x3 + (1 : Int32)) fun v4 => m_J7_fillL_60_6 N fu x1 v4 x4 σ3)) else none))
def m_J7_fillL_60 (N : Nat) (x1 : Int64) (σ : g_St) : Option (g_St) := m_J7_fillL_60_6 N N x1 (0 : Int32) (256 : Int32) σ
/-! m_J6_bitCount -/
def m_J6_bitCount (x0 : Int32) (σ : g_St) : Option (Int32 × g_St) := (g_lt (x0 - ((x0.toUInt32 >>> ((1 : Int32).toUInt32 &&& Int32.toUInt32 31)).toInt32 &&& (1431655765 : Int32))) fun v1 => (g_lt ((v1 &&& (858993459 : Int32)) + ((v1.toUInt32 >>> ((2 : Int32).toUInt32 &&& Int32.toUInt32 31)).toInt32 &&& (858993459 : Int32))) fun v2 => (g_lt ((v2 + (v2.toUInt32 >>> ((4 : Int32).toUInt32 &&& Int32.toUInt32 31)).toInt32) &&& (252645135 : Int32)) fun v3 => (g_lt (v3 + (v3.toUInt32 >>> ((8 : Int32).toUInt32 &&& Int32.toUInt32 31)).toInt32) fun v4 => (g_lt (v4 + (v4.toUInt32 >>> ((16 : Int32).toUInt32 &&& Int32.toUInt32 31)).toInt32) fun v5 => some ((v5 &&& (63 : Int32)), σ))))))
/-! m_X2_partSets -/
def m_X2_partSets_127 (k63 : Int32 → Int32 → g_St → Option (g_St)) (N : Nat) (x2 : Int32) (x3 : Int32) (σ : g_St) : Option (g_St) := (g_lt (x3 + (-1 : Int32)) fun v1 => k63 x2 v1 σ)
def m_X2_partSets_63 (N : Nat) : Nat → Int32 → Int32 → g_St → Option (g_St)
  | 0, _, _, _ => none
  | fu + 1, x2, x3, σ => (if x3 < 0 then some σ
   else (if g_in x3 256 then (if (lg_cmp (σ.2 60 x3.toNatClampNeg) (0 : Int64)) = 0 then m_X2_partSets_127 (m_X2_partSets_63 N fu) N x2 x3 σ
   else ((m_J6_bitCount x3 σ).bind fun q4 => (if q4.1 ≤ x2 then (if (70 : Int32) ≤ (q4.2.1 59 5) then m_X2_partSets_127 (m_X2_partSets_63 N fu) N x2 x3 q4.2
   else (if g_in (q4.2.1 59 5) 70 then (g_lt (g_sI q4.2 61 (q4.2.1 59 5).toNatClampNeg x3) fun σ8 => (g_lt (g_sI σ8 59 5 ((σ8.1 59 5) + (1 : Int32))) fun σ9 => m_X2_partSets_127 (m_X2_partSets_63 N fu) N x2 x3 σ9)) else none))
   else ((m_X2_handOn N x3 q4.2).bind fun σ10 => m_X2_partSets_127 (m_X2_partSets_63 N fu) N x2 x3 σ10)))) else none))
def m_X2_partSets (N : Nat) (σ : g_St) : Option (g_St) := ((m_J7_fillL_60 N (0 : Int64) σ).bind fun σ1 => (g_lt (g_sI σ1 59 5 (0 : Int32)) fun σ2 => (if (σ2.1 59 3) < 0 then some σ2
   else (if (σ2.1 59 3) < (256 : Int32) then (if g_in (σ2.1 59 3) 256 then (g_lt (g_sL σ2 60 (σ2.1 59 3).toNatClampNeg (1000000000 : Int64)) fun σ6 => ((m_J6_bitCount (σ6.1 59 3) σ6).bind fun q7 => (g_lt (q7.1 - (q7.2.1 59 4)) fun v8 => (g_lt (q7.2.1 59 3) fun v9 => m_X2_partSets_63 N N v8 v9 q7.2)))) else none)
   else some σ2))))
/-! m_X2_begin -/
def m_X2_begin_25 (N : Nat) (s1 : Int32) (σ : g_St) : Option (g_St) := (g_lt (g_sI σ 59 4 s1) fun σ1 => (if (σ1.1 13 5) = 0 then ((m_X2_partSets N σ1).bind fun σ3 => some σ3)
   else some σ1))
def m_X2_begin (N : Nat) (x2 : Int32) (x3 : Int32) (σ : g_St) : Option (g_St) := (g_lt (g_sI σ 59 3 x2) fun σ1 => (if (σ1.1 13 5) = 0 then ((m_J6_bitCount x2 σ1).bind fun q3 => m_X2_begin_25 N (if q3.1 < x3 then q3.1 else x3) q3.2)
   else m_X2_begin_25 N x3 σ1))
/-! m_J7_fillL_62 -/
def m_J7_fillL_62_6 (N : Nat) : Nat → Int64 → Int32 → Int32 → g_St → Option (g_St)
  | 0, _, _, _, _ => none
  | fu + 1, x1, x3, x4, σ => (if x4 ≤ x3 then some σ
   else (if g_in x3 9 then (g_lt (g_sL σ 62 x3.toNatClampNeg x1) fun σ3 => (g_lt (x3 + (1 : Int32)) fun v4 => m_J7_fillL_62_6 N fu x1 v4 x4 σ3)) else none))
def m_J7_fillL_62 (N : Nat) (x1 : Int64) (σ : g_St) : Option (g_St) := m_J7_fillL_62_6 N N x1 (0 : Int32) (9 : Int32) σ
/-! m_X2_atLeastWith -/
def m_X2_atLeastWith_132 (N : Nat) : Nat → Int64 → Int32 → g_St → Option (Int64 × g_St)
  | 0, _, _, _ => none
  | fu + 1, x6, x8, σ => (if (8 : Int32) < x8 then some (x6, σ)
   else (if g_in x8 9 then (g_lt (x6 + (σ.2 62 x8.toNatClampNeg)) fun v3 => (g_lt (x8 + (1 : Int32)) fun v4 => m_X2_atLeastWith_132 N fu v3 v4 σ)) else none))
def m_X2_atLeastWith_122 (N : Nat) (x3 : Int32) (σ : g_St) : Option (Int64 × g_St) := (g_lt (if (0 : Int32) < x3 then x3 else (0 : Int32)) fun v1 => m_X2_atLeastWith_132 N N (0 : Int64) v1 σ)
def m_X2_atLeastWith_62 (k37 : Int32 → Int32 → Int32 → Int32 → g_St → Option (Int64 × g_St)) (N : Nat) : Nat → Int32 → Int32 → Int32 → Int32 → Int32 → g_St → Option (Int64 × g_St)
  | 0, _, _, _, _, _, _ => none
  | fu + 1, x3, x4, x5, x6, x7, σ => (if x7 < 0 then (g_lt (x6 + (1 : Int32)) fun v2 => k37 x3 x4 x5 v2 σ)
   else (if g_in x7 9 then (if (x4).toInt64 = 0 then none else (g_lt (((σ.2 62 x7.toNatClampNeg) * (x5).toInt64) / (x4).toInt64) fun v5 => (g_lt (x7 + (1 : Int32)) fun v6 => (if g_in v6 9 then (if g_in v6 9 then (g_lt (g_sL σ 62 v6.toNatClampNeg ((σ.2 62 v6.toNatClampNeg) + v5)) fun σ9 => (if g_in x7 9 then (if g_in x7 9 then (g_lt (g_sL σ9 62 x7.toNatClampNeg ((σ9.2 62 x7.toNatClampNeg) - v5)) fun σ12 => (g_lt (x7 + (-1 : Int32)) fun v13 => m_X2_atLeastWith_62 k37 N fu x3 x4 x5 x6 v13 σ12)) else none) else none)) else none) else none)))) else none))
def m_X2_atLeastWith_37 (N : Nat) : Nat → Int32 → Int32 → Int32 → Int32 → g_St → Option (Int64 × g_St)
  | 0, _, _, _, _, _ => none
  | fu + 1, x3, x4, x5, x6, σ => (if (σ.1 59 4) ≤ x6 then m_X2_atLeastWith_122 N x3 σ
   else (if (8 : Int32) ≤ x6 then m_X2_atLeastWith_122 N x3 σ
   else (if x4 ≤ 0 then m_X2_atLeastWith_122 N x3 σ
   else m_X2_atLeastWith_62 (m_X2_atLeastWith_37 N fu) N N x3 x4 x5 x6 x6 σ)))
def m_X2_atLeastWith (N : Nat) (x2 : Int32) (x3 : Int32) (σ : g_St) : Option (Int64 × g_St) := ((m_J7_fillL_62 N (0 : Int64) σ).bind fun σ1 => (g_lt (g_sL σ1 62 0 (1000000000 : Int64)) fun σ2 => ((m_X7_weightOf N (σ2.1 59 3) σ2).bind fun q3 => ((m_X7_weightOf N x2 q3.2).bind fun q4 => m_X2_atLeastWith_37 N N x3 q3.1 q4.1 (0 : Int32) q4.2))))
/-! m_X2_atLeastWithout -/
def m_X2_atLeastWithout_56 (k5 : Int32 → Int32 → Int64 → Int32 → g_St → Option (Int64 × g_St)) (N : Nat) (x1 : Int32) (x2 : Int32) (x3 : Int64) (x5 : Int32) (σ : g_St) : Option (Int64 × g_St) := (g_lt (x5 + (1 : Int32)) fun v1 => k5 x1 x2 x3 v1 σ)
def m_X2_atLeastWithout_5 (N : Nat) : Nat → Int32 → Int32 → Int64 → Int32 → g_St → Option (Int64 × g_St)
  | 0, _, _, _, _, _ => none
  | fu + 1, x1, x2, x3, x5, σ => (if (σ.1 59 5) ≤ x5 then some (x3, σ)
   else (if g_in x5 70 then (g_lt ((σ.1 59 3) &&& ((σ.1 61 x5.toNatClampNeg) ^^^ (-1 : Int32))) fun v3 => ((m_J6_bitCount (v3 &&& x1) σ).bind fun q4 => (if q4.1 < x2 then m_X2_atLeastWithout_56 (m_X2_atLeastWithout_5 N fu) N x1 x2 x3 x5 q4.2
   else (if g_in x5 70 then (if g_in (q4.2.1 61 x5.toNatClampNeg) 256 then (g_lt (x3 + (q4.2.2 60 (q4.2.1 61 x5.toNatClampNeg).toNatClampNeg)) fun v8 => m_X2_atLeastWithout_56 (m_X2_atLeastWithout_5 N fu) N x1 x2 v8 x5 q4.2) else none) else none)))) else none))
def m_X2_atLeastWithout (N : Nat) (x1 : Int32) (x2 : Int32) (σ : g_St) : Option (Int64 × g_St) := m_X2_atLeastWithout_5 N N x1 x2 (0 : Int64) (0 : Int32) σ
/-! m_X2_atLeast -/
def m_X2_atLeast (N : Nat) (x2 : Int32) (x3 : Int32) (σ : g_St) : Option (Int64 × g_St) := (if (σ.1 13 5) = 0 then ((m_X2_atLeastWithout N x2 x3 σ).bind fun q2 => some (q2.1, q2.2))
   else ((m_X2_atLeastWith N x2 x3 σ).bind fun q3 => some (q3.1, q3.2)))
/-! m_X3_clear -/
def m_X3_clear (σ : g_St) : Option (g_St) := (g_lt (g_sI σ 54 2 (0 : Int32)) fun σ1 => some σ1)
/-! m_X3_has -/
def m_X3_has (x1 : Int32) (σ : g_St) : Option (Int32 × g_St) := ((m_X10_holds (σ.1 54 2) x1 σ).bind fun q1 => (if g_b01 q1.1 then some (q1.1, q1.2) else none))
/-! m_X4_packInto_R -/
def m_X4_packInto_R (row : Nat) (σ : g_St) : Option (g_St) := (if (39 : Int32) ≤ (39 : Int32) then (g_lt (g_sI σ row 0 (σ.1 16 5)) fun σ2 => (g_lt (g_sI σ2 row 1 (σ2.1 16 6)) fun σ3 => (g_lt (g_sI σ3 row 2 (σ3.1 16 7)) fun σ4 => (g_lt (g_sA σ4 row (va_cpy (σ4.1 17) (σ4.1 row) 0 3 6)) fun σ5 => (g_lt (g_sA σ5 row (va_cpy (σ5.1 18) (σ5.1 row) 0 9 6)) fun σ6 => (g_lt (g_sA σ6 row (va_cpy (σ6.1 19) (σ6.1 row) 0 15 8)) fun σ7 => (g_lt (g_sA σ7 row (va_cpy (σ7.1 20) (σ7.1 row) 0 23 8)) fun σ8 => (g_lt (g_sA σ8 row (va_cpy (σ8.1 21) (σ8.1 row) 0 31 8)) fun σ9 => some σ9))))))))
   else some σ)
/-! m_X3_store -/
def m_X3_store (x1 : Int32) (x3 : Int32) (σ : g_St) : Option (g_St) := (if g_in x1 2 then ((m_X4_packInto_R (56 + x1.toNatClampNeg) σ).bind fun σ3 => (if g_in x1 2 then (g_lt (g_sI σ3 58 x1.toNatClampNeg x3) fun σ5 => (g_lt (g_sI σ5 54 2 ((σ5.1 54 2) ||| ((1 : Int32) <<< (x1 &&& 31)))) fun σ6 => some σ6)) else none)) else none)
/-! m_X4_unpackFrom_R -/
def m_X4_unpackFrom_R (row : Nat) (σ : g_St) : Option (g_St) := (if (39 : Int32) ≤ (39 : Int32) then (g_lt (g_sI σ 16 5 (σ.1 row 0)) fun σ2 => (g_lt (g_sI σ2 16 6 (σ2.1 row 1)) fun σ3 => (g_lt (g_sI σ3 16 7 (σ3.1 row 2)) fun σ4 => (g_lt (g_sA σ4 17 (va_cpy (σ4.1 row) (σ4.1 17) 3 0 6)) fun σ5 => (g_lt (g_sA σ5 18 (va_cpy (σ5.1 row) (σ5.1 18) 9 0 6)) fun σ6 => (g_lt (g_sA σ6 19 (va_cpy (σ6.1 row) (σ6.1 19) 15 0 8)) fun σ7 => (g_lt (g_sA σ7 20 (va_cpy (σ7.1 row) (σ7.1 20) 23 0 8)) fun σ8 => (g_lt (g_sA σ8 21 (va_cpy (σ8.1 row) (σ8.1 21) 31 0 8)) fun σ9 => some σ9))))))))
   else some σ)
/-! m_X3_restore -/
def m_X3_restore (x1 : Int32) (σ : g_St) : Option (Int32 × g_St) := (if g_in x1 2 then ((m_X4_unpackFrom_R (56 + x1.toNatClampNeg) σ).bind fun σ3 => (if g_in x1 2 then some ((σ3.1 58 x1.toNatClampNeg), σ3) else none)) else none)
/-! m_X4_copyFrom_6 -/
def m_X4_copyFrom_6 (σ : g_St) : Option (g_St) := (g_lt (g_sA σ 17 (va_cpy (σ.1 7) (σ.1 17) 0 0 6)) fun σ1 => (g_lt (g_sA σ1 18 (va_cpy (σ1.1 8) (σ1.1 18) 0 0 6)) fun σ2 => (g_lt (g_sA σ2 19 (va_cpy (σ2.1 9) (σ2.1 19) 0 0 8)) fun σ3 => (g_lt (g_sA σ3 20 (va_cpy (σ3.1 10) (σ3.1 20) 0 0 8)) fun σ4 => (g_lt (g_sA σ4 21 (va_cpy (σ4.1 11) (σ4.1 21) 0 0 8)) fun σ5 => (g_lt (g_sI σ5 16 5 (σ5.1 6 5)) fun σ6 => (g_lt (g_sI σ6 16 6 (σ6.1 6 6)) fun σ7 => (g_lt (g_sI σ7 16 7 (σ7.1 6 7)) fun σ8 => some σ8))))))))
/-! m_X4_heldBy -/
def m_X4_heldBy_29 (k5 : Int32 → Int32 → Int32 → Int32 → g_St → Option (Int32 × g_St)) (N : Nat) (x1 : Int32) (x2 : Int32) (x3 : Int32) (x4 : Int32) (σ : g_St) : Option (Int32 × g_St) := (g_lt (x4 + (1 : Int32)) fun v1 => k5 x1 x2 x3 v1 σ)
def m_X4_heldBy_5 (N : Nat) : Nat → Int32 → Int32 → Int32 → Int32 → g_St → Option (Int32 × g_St)
  | 0, _, _, _, _, _ => none
  | fu + 1, x1, x2, x3, x4, σ => (if x2 ≤ x4 then some (x3, σ)
   else (if g_in x4 8 then (if (σ.1 19 x4.toNatClampNeg) = x1 then (g_lt (x3 ||| ((1 : Int32) <<< (x4 &&& 31))) fun v4 => m_X4_heldBy_29 (m_X4_heldBy_5 N fu) N x1 x2 v4 x4 σ)
   else m_X4_heldBy_29 (m_X4_heldBy_5 N fu) N x1 x2 x3 x4 σ) else none))
def m_X4_heldBy (N : Nat) (x1 : Int32) (x2 : Int32) (σ : g_St) : Option (Int32 × g_St) := m_X4_heldBy_5 N N x1 x2 (0 : Int32) (0 : Int32) σ
/-! m_X4_agingFor -/
def m_X4_agingFor_28 (k5 : Int32 → Int32 → Int32 → Int32 → g_St → Option (Int32 × g_St)) (N : Nat) (x1 : Int32) (x2 : Int32) (x3 : Int32) (x4 : Int32) (σ : g_St) : Option (Int32 × g_St) := (g_lt (x4 + (1 : Int32)) fun v1 => k5 x1 x2 x3 v1 σ)
def m_X4_agingFor_5 (N : Nat) : Nat → Int32 → Int32 → Int32 → Int32 → g_St → Option (Int32 × g_St)
  | 0, _, _, _, _, _ => none
  | fu + 1, x1, x2, x3, x4, σ => (if x2 ≤ x4 then some (x3, σ)
   else ((m_X4_whoAges x4 σ).bind fun q2 => (if q2.1 = x1 then (g_lt (x3 ||| ((1 : Int32) <<< (x4 &&& 31))) fun v4 => m_X4_agingFor_28 (m_X4_agingFor_5 N fu) N x1 x2 v4 x4 q2.2)
   else m_X4_agingFor_28 (m_X4_agingFor_5 N fu) N x1 x2 x3 x4 q2.2)))
def m_X4_agingFor (N : Nat) (x1 : Int32) (x2 : Int32) (σ : g_St) : Option (Int32 × g_St) := m_X4_agingFor_5 N N x1 x2 (0 : Int32) (0 : Int32) σ
/-! m_X4_forSaleTo -/
def m_X4_forSaleTo_40 (k5 : Int32 → Int32 → Int32 → Int32 → g_St → Option (Int32 × g_St)) (N : Nat) (x1 : Int32) (x2 : Int32) (x3 : Int32) (x4 : Int32) (σ : g_St) : Option (Int32 × g_St) := (g_lt (x4 + (1 : Int32)) fun v1 => k5 x1 x2 x3 v1 σ)
def m_X4_forSaleTo_5 (N : Nat) : Nat → Int32 → Int32 → Int32 → Int32 → g_St → Option (Int32 × g_St)
  | 0, _, _, _, _, _ => none
  | fu + 1, x1, x2, x3, x4, σ => (if x2 ≤ x4 then some (x3, σ)
   else (if g_in x4 8 then (if (σ.1 19 x4.toNatClampNeg) = x1 then m_X4_forSaleTo_40 (m_X4_forSaleTo_5 N fu) N x1 x2 x3 x4 σ
   else (if g_in x4 8 then (if (σ.1 20 x4.toNatClampNeg) = (-1 : Int32) then (g_lt (x3 ||| ((1 : Int32) <<< (x4 &&& 31))) fun v6 => m_X4_forSaleTo_40 (m_X4_forSaleTo_5 N fu) N x1 x2 v6 x4 σ)
   else m_X4_forSaleTo_40 (m_X4_forSaleTo_5 N fu) N x1 x2 x3 x4 σ) else none)) else none))
def m_X4_forSaleTo (N : Nat) (x1 : Int32) (x2 : Int32) (σ : g_St) : Option (Int32 × g_St) := m_X4_forSaleTo_5 N N x1 x2 (0 : Int32) (0 : Int32) σ
/-! m_X4_priceOf -/
def m_X4_priceOf_27 (k4 : Int32 → Int32 → Int32 → g_St → Option (Int32 × g_St)) (N : Nat) (x1 : Int32) (x2 : Int32) (x3 : Int32) (σ : g_St) : Option (Int32 × g_St) := (g_lt (x3 + (1 : Int32)) fun v1 => k4 x1 x2 v1 σ)
def m_X4_priceOf_4 (N : Nat) : Nat → Int32 → Int32 → Int32 → g_St → Option (Int32 × g_St)
  | 0, _, _, _, _ => none
  | fu + 1, x1, x2, x3, σ => (if (8 : Int32) ≤ x3 then some (x2, σ)
   else ((m_X10_holds x1 x3 σ).bind fun q2 => (if q2.1 = 0 then m_X4_priceOf_27 (m_X4_priceOf_4 N fu) N x1 x2 x3 q2.2
   else (if g_in x3 8 then (g_lt (x2 + (q2.2.1 21 x3.toNatClampNeg)) fun v5 => m_X4_priceOf_27 (m_X4_priceOf_4 N fu) N x1 v5 x3 q2.2) else none))))
def m_X4_priceOf (N : Nat) (x1 : Int32) (σ : g_St) : Option (Int32 × g_St) := m_X4_priceOf_4 N N x1 (0 : Int32) (0 : Int32) σ
/-! m_X4_celebrate -/
def m_X4_celebrate (x1 : Int32) (σ : g_St) : Option (g_St) := (if x1 < 0 then some σ
   else (if x1 < (6 : Int32) then (if g_in x1 6 then ((m_X10_older (σ.1 17 x1.toNatClampNeg) σ).bind fun q4 => (if g_in x1 6 then (g_lt (g_sI q4.2 17 x1.toNatClampNeg q4.1) fun σ6 => (if g_in x1 6 then (if g_in x1 6 then (if g_in x1 6 then (g_lt (g_sI σ6 18 x1.toNatClampNeg (if (((σ6.1 18 x1.toNatClampNeg) + ((σ6.1 17 x1.toNatClampNeg) / (10 : Int32))) + (1 : Int32)) < (9999 : Int32) then (((σ6.1 18 x1.toNatClampNeg) + ((σ6.1 17 x1.toNatClampNeg) / (10 : Int32))) + (1 : Int32)) else (9999 : Int32))) fun σ10 => some σ10) else none) else none) else none)) else none)) else none)
   else some σ))
/-! m_X4_passDraw -/
def m_X4_passDraw_28 (x2 : Int32) (x3 : Int32) (σ : g_St) : Option (g_St) := ((m_X7_drumAfter x3 (σ.1 16 7) x2 σ).bind fun q1 => (g_lt (g_sI q1.2 16 5 q1.1) fun σ2 => ((m_X7_drawsAfter x3 (σ2.1 16 7) x2 σ2).bind fun q3 => (g_lt (g_sI q3.2 16 7 q3.1) fun σ4 => some σ4))))
def m_X4_passDraw (x2 : Int32) (σ : g_St) : Option (g_St) := (g_lt (σ.1 16 5) fun v1 => ((m_X7_endsYear v1 (σ.1 16 7) x2 σ).bind fun q2 => (if q2.1 = 0 then m_X4_passDraw_28 x2 v1 q2.2
   else (g_lt (g_sI q2.2 16 6 ((q2.2.1 16 6) + (1 : Int32))) fun σ4 => m_X4_passDraw_28 x2 v1 σ4))))
/-! m_X5_clear -/
def m_X5_clear (σ : g_St) : Option (g_St) := (g_lt (g_sI σ 22 1 (0 : Int32)) fun σ1 => (g_lt (g_sI σ1 22 2 (0 : Int32)) fun σ2 => some σ2))
/-! m_X5_add -/
def m_X5_add (σ : g_St) : Option (g_St) := (if g_in (σ.1 22 1) 30 then ((m_X4_packInto_R (24 + (σ.1 22 1).toNatClampNeg) σ).bind fun σ3 => (g_lt (g_sI σ3 22 1 (((σ3.1 22 1) + (1 : Int32)) - ((σ3.1 22 1) + (1 : Int32)) / (30 : Int32) * (30 : Int32))) fun σ4 => (if (30 : Int32) ≤ (σ4.1 22 2) then some σ4
   else (g_lt (g_sI σ4 22 2 ((σ4.1 22 2) + (1 : Int32))) fun σ6 => some σ6)))) else none)
/-! m_X5_takeBack -/
def m_X5_takeBack (x1 : Int32) (σ : g_St) : Option (g_St) := (if x1 < (1 : Int32) then some σ
   else (if x1 ≤ (σ.1 22 2) then (g_lt (g_sI σ 22 1 ((((σ.1 22 1) + (30 : Int32)) - x1) - (((σ.1 22 1) + (30 : Int32)) - x1) / (30 : Int32) * (30 : Int32))) fun σ3 => (g_lt (g_sI σ3 22 2 ((σ3.1 22 2) - x1)) fun σ4 => (if g_in (σ4.1 22 1) 30 then ((m_X4_unpackFrom_R (24 + (σ4.1 22 1).toNatClampNeg) σ4).bind fun σ7 => some σ7) else none)))
   else some σ))
/-! m_X7_setUntold -/
def m_X7_setUntold (σ : g_St) : Option (g_St) := (g_lt (g_sI σ 13 2 (0 : Int32)) fun σ1 => (g_lt (g_sI σ1 13 3 (0 : Int32)) fun σ2 => (g_lt (g_sI σ2 13 4 (4 : Int32)) fun σ3 => (g_lt (g_sI σ3 13 5 (1 : Int32)) fun σ4 => (g_lt (g_sI σ4 15 0 (6 : Int32)) fun σ5 => (g_lt (g_sI σ5 15 1 (18 : Int32)) fun σ6 => (g_lt (g_sI σ6 15 2 (18 : Int32)) fun σ7 => (g_lt (g_sI σ7 15 3 (65 : Int32)) fun σ8 => some σ8))))))))
/-! m_X7_setUntold_3 -/
def m_X7_setUntold_3 (σ : g_St) : Option (g_St) := (g_lt (g_sI σ 3 2 (0 : Int32)) fun σ1 => (g_lt (g_sI σ1 3 3 (0 : Int32)) fun σ2 => (g_lt (g_sI σ2 3 4 (4 : Int32)) fun σ3 => (g_lt (g_sI σ3 3 5 (1 : Int32)) fun σ4 => (g_lt (g_sI σ4 5 0 (6 : Int32)) fun σ5 => (g_lt (g_sI σ5 5 1 (18 : Int32)) fun σ6 => (g_lt (g_sI σ6 5 2 (18 : Int32)) fun σ7 => (g_lt (g_sI σ7 5 3 (65 : Int32)) fun σ8 => some σ8))))))))
/-! m_J7_fill_10 -/
def m_J7_fill_10_5 (N : Nat) : Nat → Int32 → Int32 → Int32 → g_St → Option (g_St)
  | 0, _, _, _, _ => none
  | fu + 1, x1, x2, x3, σ => (if x3 ≤ x2 then some σ
   else (if g_in x2 8 then (g_lt (g_sI σ 10 x2.toNatClampNeg x1) fun σ3 => (g_lt (x2 + (1 : Int32)) fun v4 => m_J7_fill_10_5 N fu x1 v4 x3 σ3)) else none))
def m_J7_fill_10 (N : Nat) (x1 : Int32) (σ : g_St) : Option (g_St) := m_J7_fill_10_5 N N x1 (0 : Int32) (8 : Int32) σ
/-! m_X6_begin -/
def m_X6_begin (N : Nat) (σ : g_St) : Option (g_St) := ((m_X7_setUntold_3 σ).bind fun σ1 => ((m_J7_fill_10 N (-1 : Int32) σ1).bind fun σ2 => (g_lt (g_sI σ2 2 3 (0 : Int32)) fun σ3 => (g_lt (g_sI σ3 2 4 (0 : Int32)) fun σ4 => (g_lt (g_sI σ4 2 5 (0 : Int32)) fun σ5 => (g_lt (g_sI σ5 2 6 (0 : Int32)) fun σ6 => (g_lt (g_sI σ6 2 7 (0 : Int32)) fun σ7 => (g_lt (g_sI σ7 2 8 (0 : Int32)) fun σ8 => (g_lt (g_sI σ8 2 9 (0 : Int32)) fun σ9 => (g_lt (g_sI σ9 2 10 (0 : Int32)) fun σ10 => (g_lt (g_sI σ10 2 11 (-1 : Int32)) fun σ11 => some σ11)))))))))))
/-! m_X6_numbersOf -/
def m_X6_numbersOf (x0 : Int32) (σ : g_St) : Option (Int32 × g_St) := (if x0 = (112 : Int32) then some ((2 : Int32), σ)
   else (if x0 = (113 : Int32) then some ((0 : Int32), σ)
   else (if x0 = (114 : Int32) then some ((4 : Int32), σ)
   else (if x0 = (115 : Int32) then some ((0 : Int32), σ)
   else (if x0 = (116 : Int32) then some ((3 : Int32), σ)
   else (if x0 = (117 : Int32) then some ((0 : Int32), σ)
   else (if x0 = (118 : Int32) then some ((0 : Int32), σ)
   else (if x0 = (119 : Int32) then some ((0 : Int32), σ)
   else (if x0 = (120 : Int32) then some ((0 : Int32), σ)
   else (if x0 = (121 : Int32) then some ((2 : Int32), σ)
   else some ((0 : Int32), σ)))))))))))
/-! m_X6_fail -/
def m_X6_fail (x1 : Int32) (x2 : Int32) (σ : g_St) : Option (g_St) := (g_lt (g_sI σ 2 10 x1) fun σ1 => (g_lt (g_sI σ1 2 11 x2) fun σ2 => some σ2))
/-! m_X6_takeFigure -/
def m_X6_takeFigure_38 (x1 : Int32) (σ : g_St) : Option (g_St) := (g_lt (g_sI σ 2 5 ((σ.1 2 5) + (1 : Int32))) fun σ1 => (if (3 : Int32) < (σ1.1 2 5) then some σ1
   else (g_lt (g_sI σ1 2 6 (((σ1.1 2 6) * (10 : Int32)) + x1)) fun σ3 => some σ3)))
def m_X6_takeFigure (x1 : Int32) (x2 : Int32) (σ : g_St) : Option (g_St) := (if (σ.1 2 5) = 0 then ((m_X6_numbersOf (σ.1 2 3) σ).bind fun q2 => (if (σ.1 2 4) < q2.1 then (g_lt (g_sI q2.2 2 7 x2) fun σ4 => (g_lt (g_sI σ4 2 6 (0 : Int32)) fun σ5 => m_X6_takeFigure_38 x1 σ5))
   else ((m_X6_fail (1 : Int32) x2 q2.2).bind fun σ6 => some σ6)))
   else m_X6_takeFigure_38 x1 σ)
/-! m_X6_least -/
def m_X6_least_38 (s0 : Int32) (σ : g_St) : Option (Int32 × g_St) := (if s0 = 0 then some ((0 : Int32), σ)
   else some ((1 : Int32), σ))
def m_X6_least_37 (σ : g_St) : Option (Int32 × g_St) := m_X6_least_38 (0 : Int32) σ
def m_X6_least_33 (σ : g_St) : Option (Int32 × g_St) := m_X6_least_38 (1 : Int32) σ
def m_X6_least_17 (σ : g_St) : Option (Int32 × g_St) := (if (σ.1 2 3) = (121 : Int32) then (if (σ.1 2 4) = 0 then m_X6_least_33 σ
   else m_X6_least_37 σ)
   else m_X6_least_37 σ)
def m_X6_least (σ : g_St) : Option (Int32 × g_St) := (if (σ.1 2 3) = (116 : Int32) then (if (σ.1 2 4) = (1 : Int32) then m_X6_least_33 σ
   else m_X6_least_17 σ)
   else m_X6_least_17 σ)
/-! m_X6_greatest -/
def m_X6_greatest_71 (σ : g_St) : Option (Int32 × g_St) := (if (σ.1 2 3) = (121 : Int32) then (if (σ.1 2 4) = 0 then some ((8 : Int32), σ)
   else some ((1 : Int32), σ))
   else some ((99 : Int32), σ))
def m_X6_greatest_51 (σ : g_St) : Option (Int32 × g_St) := (if (σ.1 2 3) = (116 : Int32) then (if (σ.1 2 4) = (1 : Int32) then some ((9 : Int32), σ)
   else m_X6_greatest_71 σ)
   else m_X6_greatest_71 σ)
def m_X6_greatest (σ : g_St) : Option (Int32 × g_St) := (if (σ.1 2 3) = (112 : Int32) then (if (σ.1 2 4) = 0 then some ((99 : Int32), σ)
   else some ((999 : Int32), σ))
   else (if (σ.1 2 3) = (116 : Int32) then (if (σ.1 2 4) = 0 then some (((σ.1 3 2) - (1 : Int32)), σ)
   else m_X6_greatest_51 σ)
   else m_X6_greatest_51 σ))
/-! m_X6_closeNumber -/
def m_X6_closeNumber_61 (σ : g_St) : Option (g_St) := ((m_X6_fail (2 : Int32) (σ.1 2 7) σ).bind fun σ1 => some σ1)
def m_X6_closeNumber_43 (s0 : Int32) (σ : g_St) : Option (g_St) := (g_lt (g_sI σ 2 5 (0 : Int32)) fun σ1 => (if s0 = 0 then m_X6_closeNumber_61 σ1
   else (if (σ1.1 2 4) < (4 : Int32) then (if g_in (σ1.1 2 4) 4 then (g_lt (g_sI σ1 12 (σ1.1 2 4).toNatClampNeg (σ1.1 2 6)) fun σ5 => (g_lt (g_sI σ5 2 4 ((σ5.1 2 4) + (1 : Int32))) fun σ6 => some σ6)) else none)
   else m_X6_closeNumber_61 σ1)))
def m_X6_closeNumber_42 (σ : g_St) : Option (g_St) := m_X6_closeNumber_43 (0 : Int32) σ
def m_X6_closeNumber (σ : g_St) : Option (g_St) := (if (σ.1 2 5) = 0 then some σ
   else (if (3 : Int32) < (σ.1 2 5) then m_X6_closeNumber_42 σ
   else ((m_X6_least σ).bind fun q3 => (if (σ.1 2 6) < q3.1 then m_X6_closeNumber_42 q3.2
   else ((m_X6_greatest q3.2).bind fun q5 => (if q5.1 < (q3.2.1 2 6) then m_X6_closeNumber_42 q5.2
   else m_X6_closeNumber_43 (1 : Int32) q5.2))))))
/-! m_X6_addPerson -/
def m_X6_addPerson (σ : g_St) : Option (g_St) := (if (σ.1 3 2) < (6 : Int32) then (if g_in (σ.1 3 2) 6 then (g_lt (g_sI σ 7 (σ.1 3 2).toNatClampNeg (σ.1 12 0)) fun σ3 => (if g_in (σ3.1 3 2) 6 then (g_lt (g_sI σ3 8 (σ3.1 3 2).toNatClampNeg (σ3.1 12 1)) fun σ5 => (g_lt (g_sI σ5 3 2 ((σ5.1 3 2) + (1 : Int32))) fun σ6 => some σ6)) else none)) else none)
   else some σ)
/-! m_X6_addTicket -/
def m_X6_addTicket (σ : g_St) : Option (g_St) := (if (σ.1 3 3) < (8 : Int32) then (if g_in (σ.1 3 3) 8 then (g_lt (g_sI σ 9 (σ.1 3 3).toNatClampNeg (σ.1 12 0)) fun σ3 => (if g_in (σ3.1 3 3) 8 then (g_lt (g_sI σ3 4 (σ3.1 3 3).toNatClampNeg (σ3.1 12 1)) fun σ5 => (if g_in (σ5.1 3 3) 8 then (g_lt (g_sI σ5 11 (σ5.1 3 3).toNatClampNeg (σ5.1 12 2)) fun σ7 => (g_lt (g_sI σ7 3 3 ((σ7.1 3 3) + (1 : Int32))) fun σ8 => some σ8)) else none)) else none)) else none)
   else some σ)
/-! m_X6_setYear -/
def m_X6_setYear_32 (s1 : Int32) (σ : g_St) : Option (g_St) := (if g_b01 s1 then (g_lt (g_sI σ 3 5 s1) fun σ2 => (g_lt (g_sI σ2 2 8 (1 : Int32)) fun σ3 => some σ3)) else none)
def m_X6_setYear (σ : g_St) : Option (g_St) := (g_lt (g_sI σ 3 4 (σ.1 12 0)) fun σ1 => (if (σ1.1 12 1) = (1 : Int32) then m_X6_setYear_32 (1 : Int32) σ1
   else m_X6_setYear_32 (0 : Int32) σ1))
/-! m_X6_setRights -/
def m_X6_setRights (σ : g_St) : Option (g_St) := (g_lt (g_sA σ 5 (va_cpy (σ.1 12) (σ.1 5) 0 0 4)) fun σ1 => (g_lt (g_sI σ1 2 9 (1 : Int32)) fun σ2 => some σ2))
/-! m_X6_closeClause -/
def m_X6_closeClause_21 (x1 : Int32) (σ : g_St) : Option (g_St) := ((m_X6_fail (1 : Int32) x1 σ).bind fun σ1 => some σ1)
def m_X6_closeClause_80 (σ : g_St) : Option (g_St) := (g_lt (g_sI σ 2 3 (0 : Int32)) fun σ1 => (g_lt (g_sI σ1 2 4 (0 : Int32)) fun σ2 => some σ2))
def m_X6_closeClause (x1 : Int32) (σ : g_St) : Option (g_St) := (if (σ.1 2 3) = 0 then m_X6_closeClause_21 x1 σ
   else ((m_X6_numbersOf (σ.1 2 3) σ).bind fun q2 => (if q2.1 ≤ (σ.1 2 4) then (if (q2.2.1 2 3) = (112 : Int32) then ((m_X6_addPerson q2.2).bind fun σ10 => m_X6_closeClause_80 σ10)
   else (if (q2.2.1 2 3) = (116 : Int32) then ((m_X6_addTicket q2.2).bind fun σ9 => m_X6_closeClause_80 σ9)
   else (if (q2.2.1 2 3) = (121 : Int32) then ((m_X6_setYear q2.2).bind fun σ8 => m_X6_closeClause_80 σ8)
   else ((m_X6_setRights q2.2).bind fun σ7 => m_X6_closeClause_80 σ7))))
   else m_X6_closeClause_21 x1 q2.2)))
/-! m_X6_isOneTooMany -/
def m_X6_isOneTooMany (x1 : Int32) (σ : g_St) : Option (Int32 × g_St) := (if x1 = (112 : Int32) then (if (σ.1 3 2) < (6 : Int32) then some ((0 : Int32), σ)
   else some ((1 : Int32), σ))
   else (if x1 = (116 : Int32) then (if (σ.1 3 3) < (8 : Int32) then some ((0 : Int32), σ)
   else some ((1 : Int32), σ))
   else (if x1 = (121 : Int32) then (if g_b01 (σ.1 2 8) then some ((σ.1 2 8), σ) else none)
   else (if g_b01 (σ.1 2 9) then some ((σ.1 2 9), σ) else none))))
/-! m_X6_openClause -/
def m_X6_openClause_14 (x2 : Int32) (σ : g_St) : Option (g_St) := ((m_X6_fail (1 : Int32) x2 σ).bind fun σ1 => some σ1)
def m_X6_openClause (x1 : Int32) (x2 : Int32) (σ : g_St) : Option (g_St) := (if (σ.1 2 3) = 0 then ((m_X6_numbersOf x1 σ).bind fun q2 => (if q2.1 = 0 then m_X6_openClause_14 x2 q2.2
   else ((m_X6_isOneTooMany x1 q2.2).bind fun q4 => (if q4.1 = 0 then (g_lt (g_sI q4.2 2 3 x1) fun σ6 => (g_lt (g_sI σ6 2 4 (0 : Int32)) fun σ7 => some σ7))
   else ((m_X6_fail (3 : Int32) x2 q4.2).bind fun σ8 => some σ8)))))
   else m_X6_openClause_14 x2 σ)
/-! m_X6_takeLetter -/
def m_X6_takeLetter_22 (x1 : Int32) (x2 : Int32) (σ : g_St) : Option (g_St) := ((m_X6_closeNumber σ).bind fun σ1 => (if (σ1.1 2 10) = 0 then (if x1 = (32 : Int32) then some σ1
   else (if x1 = (59 : Int32) then ((m_X6_closeClause x2 σ1).bind fun σ6 => some σ6)
   else ((m_X6_openClause x1 x2 σ1).bind fun σ5 => some σ5)))
   else some σ1))
def m_X6_takeLetter (x1 : Int32) (x2 : Int32) (σ : g_St) : Option (g_St) := (if x1 < (48 : Int32) then m_X6_takeLetter_22 x1 x2 σ
   else (if (57 : Int32) < x1 then m_X6_takeLetter_22 x1 x2 σ
   else ((m_X6_takeFigure (x1 - (48 : Int32)) x2 σ).bind fun σ3 => some σ3)))
/-! m_X7_everyTicket_3 -/
def m_X7_everyTicket_3 (σ : g_St) : Option (Int32 × g_St) := some ((((1 : Int32) <<< ((σ.1 3 3) &&& 31)) - (1 : Int32)), σ)
/-! m_X6_read_1 -/
def m_X6_read_1_69 (N : Nat) (σ : g_St) : Option (Int32 × g_St) := ((m_X7_everyTicket_3 σ).bind fun q1 => (g_lt (g_sI q1.2 6 5 q1.1) fun σ2 => some ((σ2.1 2 10), σ2)))
def m_X6_read_1_49 (N : Nat) (x2 : Int32) (σ : g_St) : Option (Int32 × g_St) := (if (σ.1 2 10) = 0 then (if (σ.1 2 3) = 0 then m_X6_read_1_69 N σ
   else ((m_X6_fail (1 : Int32) x2 σ).bind fun σ3 => m_X6_read_1_69 N σ3))
   else m_X6_read_1_69 N σ)
def m_X6_read_1_38 (N : Nat) (x2 : Int32) (σ : g_St) : Option (Int32 × g_St) := (if (σ.1 2 10) = 0 then ((m_X6_closeNumber σ).bind fun σ2 => m_X6_read_1_49 N x2 σ2)
   else m_X6_read_1_49 N x2 σ)
def m_X6_read_1_6 (N : Nat) : Nat → Int32 → Int32 → g_St → Option (Int32 × g_St)
  | 0, _, _, _ => none
  | fu + 1, x2, x3, σ => (if x2 ≤ x3 then m_X6_read_1_38 N x2 σ
   else (if (250 : Int32) ≤ x3 then m_X6_read_1_38 N x2 σ
   else (if (σ.1 2 10) = 0 then (if g_in x3 250 then ((m_X6_takeLetter (σ.1 1 x3.toNatClampNeg) x3 σ).bind fun σ5 => (g_lt (x3 + (1 : Int32)) fun v6 => m_X6_read_1_6 N fu x2 v6 σ5)) else none)
   else m_X6_read_1_38 N x2 σ)))
def m_X6_read_1 (N : Nat) (x2 : Int32) (σ : g_St) : Option (Int32 × g_St) := ((m_X6_begin N σ).bind fun σ1 => m_X6_read_1_6 N N x2 (0 : Int32) σ1)
/-! m_X7_copyFrom_3 -/
def m_X7_copyFrom_3 (σ : g_St) : Option (g_St) := (g_lt (g_sA σ 14 (va_cpy (σ.1 4) (σ.1 14) 0 0 8)) fun σ1 => (g_lt (g_sA σ1 15 (va_cpy (σ1.1 5) (σ1.1 15) 0 0 4)) fun σ2 => (g_lt (g_sI σ2 13 2 (σ2.1 3 2)) fun σ3 => (g_lt (g_sI σ3 13 3 (σ3.1 3 3)) fun σ4 => (g_lt (g_sI σ4 13 4 (σ4.1 3 4)) fun σ5 => (if g_b01 (σ5.1 3 5) then (g_lt (g_sI σ5 13 5 (σ5.1 3 5)) fun σ7 => some σ7) else none))))))
/-! m_X7_rightsAt -/
def m_X7_rightsAt_25 (k4 : Int32 → Int32 → Int32 → g_St → Option (Int32 × g_St)) (N : Nat) (x1 : Int32) (x2 : Int32) (x3 : Int32) (σ : g_St) : Option (Int32 × g_St) := (g_lt (x3 + (1 : Int32)) fun v1 => k4 x1 x2 v1 σ)
def m_X7_rightsAt_4 (N : Nat) : Nat → Int32 → Int32 → Int32 → g_St → Option (Int32 × g_St)
  | 0, _, _, _, _ => none
  | fu + 1, x1, x2, x3, σ => (if (4 : Int32) ≤ x3 then some (x2, σ)
   else (if g_in x3 4 then (if x1 < (σ.1 15 x3.toNatClampNeg) then m_X7_rightsAt_25 (m_X7_rightsAt_4 N fu) N x1 x2 x3 σ
   else (g_lt (x2 ||| ((1 : Int32) <<< (x3 &&& 31))) fun v4 => m_X7_rightsAt_25 (m_X7_rightsAt_4 N fu) N x1 v4 x3 σ)) else none))
def m_X7_rightsAt (N : Nat) (x1 : Int32) (σ : g_St) : Option (Int32 × g_St) := m_X7_rightsAt_4 N N x1 (0 : Int32) (0 : Int32) σ
/-! m_X7_ticketAt -/
def m_X7_ticketAt_43 (k5 : Int32 → Int32 → Int32 → g_St → Option (Int32 × g_St)) (N : Nat) (x1 : Int32) (x3 : Int32) (x4 : Int32) (σ : g_St) : Option (Int32 × g_St) := (g_lt (x4 + (1 : Int32)) fun v1 => k5 x1 x3 v1 σ)
def m_X7_ticketAt_5 (N : Nat) : Nat → Int32 → Int32 → Int32 → g_St → Option (Int32 × g_St)
  | 0, _, _, _, _ => none
  | fu + 1, x1, x3, x4, σ => (if (σ.1 13 3) ≤ x4 then some ((-1 : Int32), σ)
   else ((m_X10_holds x1 x4 σ).bind fun q2 => (if q2.1 = 0 then m_X7_ticketAt_43 (m_X7_ticketAt_5 N fu) N x1 x3 x4 q2.2
   else (if g_in x4 8 then (g_lt (x3 - (q2.2.1 14 x4.toNatClampNeg)) fun v5 => (if 0 ≤ v5 then m_X7_ticketAt_43 (m_X7_ticketAt_5 N fu) N x1 v5 x4 q2.2
   else some (x4, q2.2))) else none))))
def m_X7_ticketAt (N : Nat) (x1 : Int32) (x2 : Int32) (σ : g_St) : Option (Int32 × g_St) := m_X7_ticketAt_5 N N x1 x2 (0 : Int32) σ
/-! m_X8_add -/
def m_X8_add (x1 : Int32) (σ : g_St) : Option (Int32 × g_St) := (if (8 : Int32) ≤ (σ.1 67 1) then some ((σ.1 67 1), σ)
   else (if g_in (σ.1 67 1) 8 then (g_lt (g_sI σ 68 (σ.1 67 1).toNatClampNeg x1) fun σ3 => (g_lt (g_sI σ3 67 1 ((σ3.1 67 1) + (1 : Int32))) fun σ4 => some ((σ4.1 67 1), σ4))) else none))
/-! m_X8_guessWeight -/
def m_X8_guessWeight_101 (k51 : Int32 → Int32 → Int64 → Int32 → g_St → Option (Int64 × g_St)) (N : Nat) (x2 : Int32) (x4 : Int32) (x7 : Int32) (s0 : Int64) (s1 : Int32) (σ : g_St) : Option (Int64 × g_St) := (if (x4).toInt64 = 0 then none else (g_lt ((s0 * (s1).toInt64) / (x4).toInt64) fun v2 => (g_lt (x7 + (1 : Int32)) fun v3 => k51 x2 x4 v2 v3 σ)))
def m_X8_guessWeight_51 (N : Nat) : Nat → Int32 → Int32 → Int64 → Int32 → g_St → Option (Int64 × g_St)
  | 0, _, _, _, _, _ => none
  | fu + 1, x2, x4, x5, x7, σ => (if (σ.1 67 1) ≤ x7 then some (x5, σ)
   else (if x4 ≤ 0 then some (x5, σ)
   else (if g_in x7 8 then (if g_in (σ.1 68 x7.toNatClampNeg) 8 then (g_lt (σ.1 14 (σ.1 68 x7.toNatClampNeg).toNatClampNeg) fun v5 => (if g_in x7 8 then (if (σ.1 68 x7.toNatClampNeg) = x2 then m_X8_guessWeight_101 (m_X8_guessWeight_51 N fu) N x2 x4 x7 x5 ((2 : Int32) * v5) σ
   else m_X8_guessWeight_101 (m_X8_guessWeight_51 N fu) N x2 x4 x7 x5 v5 σ) else none)) else none) else none)))
def m_X8_guessWeight_40 (N : Nat) (x2 : Int32) (s0 : Int32) (s1 : Int32) (σ : g_St) : Option (Int64 × g_St) := (g_lt (s0 + s1) fun v1 => m_X8_guessWeight_51 N N x2 v1 (1000000000 : Int64) (0 : Int32) σ)
def m_X8_guessWeight_17 (N : Nat) (x2 : Int32) (s0 : Int32) (σ : g_St) : Option (Int64 × g_St) := ((m_X7_everyTicket σ).bind fun q1 => ((m_X7_weightOf N q1.1 q1.2).bind fun q2 => (if s0 = 0 then m_X8_guessWeight_40 N x2 q2.1 (0 : Int32) q2.2
   else (if g_in x2 8 then m_X8_guessWeight_40 N x2 q2.1 (q2.2.1 14 x2.toNatClampNeg) q2.2 else none))))
def m_X8_guessWeight_16 (N : Nat) (x2 : Int32) (σ : g_St) : Option (Int64 × g_St) := m_X8_guessWeight_17 N x2 (0 : Int32) σ
def m_X8_guessWeight (N : Nat) (x2 : Int32) (σ : g_St) : Option (Int64 × g_St) := (if x2 < 0 then m_X8_guessWeight_16 N x2 σ
   else (if (σ.1 13 3) ≤ x2 then m_X8_guessWeight_16 N x2 σ
   else m_X8_guessWeight_17 N x2 (1 : Int32) σ))
/-! m_X8_millionths -/
def m_X8_millionths_10 (N : Nat) : Nat → Int32 → Int64 → Int32 → g_St → Option (Int32 × g_St)
  | 0, _, _, _, _ => none
  | fu + 1, x2, x3, x5, σ => (if (σ.1 13 3) ≤ x5 then (if 0 ≤ (lg_cmp x3 (1 : Int64)) then ((m_X8_guessWeight N x2 σ).bind fun q3 => (if x3 = 0 then none else some ((((q3.1 * (1000000 : Int64)) / x3)).toInt32, q3.2)))
   else some ((0 : Int32), σ))
   else ((m_X8_guessWeight N x5 σ).bind fun q5 => (g_lt (x3 + q5.1) fun v6 => (g_lt (x5 + (1 : Int32)) fun v7 => m_X8_millionths_10 N fu x2 v6 v7 q5.2))))
def m_X8_millionths (N : Nat) (x2 : Int32) (σ : g_St) : Option (Int32 × g_St) := ((m_X8_guessWeight N (-1 : Int32) σ).bind fun q1 => m_X8_millionths_10 N N x2 q1.1 (0 : Int32) q1.2)
/-! m_X8_heaviest -/
def m_X8_heaviest_40 (k9 : Int32 → Int64 → Int32 → g_St → Option (Int32 × g_St)) (N : Nat) (x2 : Int32) (x3 : Int64) (x5 : Int32) (σ : g_St) : Option (Int32 × g_St) := (g_lt (x5 + (1 : Int32)) fun v1 => k9 x2 x3 v1 σ)
def m_X8_heaviest_9 (N : Nat) : Nat → Int32 → Int64 → Int32 → g_St → Option (Int32 × g_St)
  | 0, _, _, _, _ => none
  | fu + 1, x2, x3, x5, σ => (if (σ.1 13 3) ≤ x5 then ((m_X8_guessWeight N (-1 : Int32) σ).bind fun q2 => (if (lg_cmp q2.1 x3) ≤ 0 then some (x2, q2.2)
   else some ((-1 : Int32), q2.2)))
   else ((m_X8_guessWeight N x5 σ).bind fun q4 => (if (lg_cmp q4.1 x3) ≤ 0 then m_X8_heaviest_40 (m_X8_heaviest_9 N fu) N x2 x3 x5 q4.2
   else m_X8_heaviest_40 (m_X8_heaviest_9 N fu) N x5 q4.1 x5 q4.2)))
def m_X8_heaviest (N : Nat) (σ : g_St) : Option (Int32 × g_St) := m_X8_heaviest_9 N N (-1 : Int32) (-1 : Int64) (0 : Int32) σ
/-! m_X9_fittingFor -/
def m_X9_fittingFor_97 (k28 : Int32 → Int32 → Int32 → Int32 → Int32 → g_St → Option (Int32 × g_St)) (N : Nat) (x2 : Int32) (x3 : Int32) (x4 : Int32) (x5 : Int32) (x6 : Int32) (σ : g_St) : Option (Int32 × g_St) := (g_lt (x6 + (1 : Int32)) fun v1 => k28 x2 x3 x4 x5 v1 σ)
def m_X9_fittingFor_63 (k28 : Int32 → Int32 → Int32 → Int32 → Int32 → g_St → Option (Int32 × g_St)) (N : Nat) (x2 : Int32) (x3 : Int32) (x4 : Int32) (x5 : Int32) (x6 : Int32) (s0 : Int32) (σ : g_St) : Option (Int32 × g_St) := (if x6 = x2 then m_X9_fittingFor_97 k28 N x2 x3 x4 x5 x6 σ
   else (if s0 = 0 then m_X9_fittingFor_97 k28 N x2 x3 x4 x5 x6 σ
   else (if g_in x6 6 then (if (σ.1 17 x6.toNatClampNeg) < x5 then m_X9_fittingFor_97 k28 N x2 x3 x4 x5 x6 σ
   else (g_lt (x4 ||| ((1 : Int32) <<< (x6 &&& 31))) fun v5 => m_X9_fittingFor_97 k28 N x2 x3 v5 x5 x6 σ)) else none)))
def m_X9_fittingFor_28 (N : Nat) : Nat → Int32 → Int32 → Int32 → Int32 → Int32 → g_St → Option (Int32 × g_St)
  | 0, _, _, _, _, _, _ => none
  | fu + 1, x2, x3, x4, x5, x6, σ => (if (σ.1 13 2) ≤ x6 then some (x4, σ)
   else (if g_in x2 6 then (if g_in x6 6 then (if x3 < (if 0 ≤ ((σ.1 17 x2.toNatClampNeg) - (σ.1 17 x6.toNatClampNeg)) then ((σ.1 17 x2.toNatClampNeg) - (σ.1 17 x6.toNatClampNeg)) else 0 - ((σ.1 17 x2.toNatClampNeg) - (σ.1 17 x6.toNatClampNeg))) then m_X9_fittingFor_63 (m_X9_fittingFor_28 N fu) N x2 x3 x4 x5 x6 (0 : Int32) σ
   else m_X9_fittingFor_63 (m_X9_fittingFor_28 N fu) N x2 x3 x4 x5 x6 (1 : Int32) σ) else none) else none))
def m_X9_fittingFor (N : Nat) (x2 : Int32) (x3 : Int32) (σ : g_St) : Option (Int32 × g_St) := (g_lt (σ.1 15 2) fun v1 => (if g_in x2 6 then (if v1 ≤ (σ.1 17 x2.toNatClampNeg) then m_X9_fittingFor_28 N N x2 x3 (0 : Int32) v1 (0 : Int32) σ
   else some ((0 : Int32), σ)) else none))
/-! m_X9_firstOf -/
def m_X9_firstOf_2 (N : Nat) : Nat → Int32 → Int32 → Int32 → g_St → Option (Int32 × g_St)
  | 0, _, _, _, _ => none
  | fu + 1, x0, x1, x2, σ => (if x1 ≤ x2 then some ((-1 : Int32), σ)
   else ((m_X10_holds x0 x2 σ).bind fun q2 => (if q2.1 = 0 then (g_lt (x2 + (1 : Int32)) fun v4 => m_X9_firstOf_2 N fu x0 x1 v4 q2.2)
   else some (x2, q2.2))))
def m_X9_firstOf (N : Nat) (x0 : Int32) (x1 : Int32) (σ : g_St) : Option (Int32 × g_St) := m_X9_firstOf_2 N N x0 x1 (0 : Int32) σ
/-! m_X9_mostAmong -/
def m_X9_mostAmong_82 (k36 : Int32 → Int32 → Int32 → Int32 → Int32 → g_St → Option (Int32 × g_St)) (N : Nat) (x2 : Int32) (x3 : Int32) (x4 : Int32) (x5 : Int32) (x6 : Int32) (σ : g_St) : Option (Int32 × g_St) := (g_lt (x6 + (1 : Int32)) fun v1 => k36 x2 x3 x4 x5 v1 σ)
def m_X9_mostAmong_36 (N : Nat) : Nat → Int32 → Int32 → Int32 → Int32 → Int32 → g_St → Option (Int32 × g_St)
  | 0, _, _, _, _, _, _ => none
  | fu + 1, x2, x3, x4, x5, x6, σ => (if x2 ≤ x6 then some (x5, σ)
   else (if g_in x3 6 then ((m_X10_holds (x4 &&& (σ.1 64 x3.toNatClampNeg)) x6 σ).bind fun q3 => (if q3.1 = 0 then m_X9_mostAmong_82 (m_X9_mostAmong_36 N fu) N x2 x3 x4 x5 x6 q3.2
   else (if g_in (x4 &&& (((1 : Int32) <<< (x6 &&& 31)) ^^^ (-1 : Int32))) 64 then (g_lt (if x5 < ((1 : Int32) + (q3.2.1 65 (x4 &&& (((1 : Int32) <<< (x6 &&& 31)) ^^^ (-1 : Int32))).toNatClampNeg)) then ((1 : Int32) + (q3.2.1 65 (x4 &&& (((1 : Int32) <<< (x6 &&& 31)) ^^^ (-1 : Int32))).toNatClampNeg)) else x5) fun v6 => m_X9_mostAmong_82 (m_X9_mostAmong_36 N fu) N x2 x3 x4 v6 x6 q3.2) else none))) else none))
def m_X9_mostAmong (N : Nat) (x1 : Int32) (x2 : Int32) (σ : g_St) : Option (Int32 × g_St) := ((m_X9_firstOf N x1 x2 σ).bind fun q1 => (if q1.1 = (-1 : Int32) then some ((0 : Int32), q1.2)
   else (g_lt (x1 &&& (((1 : Int32) <<< (q1.1 &&& 31)) ^^^ (-1 : Int32))) fun v3 => (if g_in v3 64 then (g_lt (q1.2.1 65 v3.toNatClampNeg) fun v5 => (g_lt (q1.1 + (1 : Int32)) fun v6 => m_X9_mostAmong_36 N N x2 q1.1 v3 v5 v6 q1.2)) else none))))
/-! m_X9_firstPartner -/
def m_X9_firstPartner_50 (k5 : Int32 → Int32 → Int32 → Int32 → Int32 → g_St → Option (Int32 × g_St)) (N : Nat) (x1 : Int32) (x2 : Int32) (x3 : Int32) (x4 : Int32) (x5 : Int32) (σ : g_St) : Option (Int32 × g_St) := (g_lt (x5 + (1 : Int32)) fun v1 => k5 x1 x2 x3 x4 v1 σ)
def m_X9_firstPartner_5 (N : Nat) : Nat → Int32 → Int32 → Int32 → Int32 → Int32 → g_St → Option (Int32 × g_St)
  | 0, _, _, _, _, _, _ => none
  | fu + 1, x1, x2, x3, x4, x5, σ => (if x4 ≤ x5 then some ((-1 : Int32), σ)
   else (if g_in x1 6 then ((m_X10_holds (x2 &&& (σ.1 64 x1.toNatClampNeg)) x5 σ).bind fun q3 => (if q3.1 = 0 then m_X9_firstPartner_50 (m_X9_firstPartner_5 N fu) N x1 x2 x3 x4 x5 q3.2
   else (if g_in (x2 &&& (((1 : Int32) <<< (x5 &&& 31)) ^^^ (-1 : Int32))) 64 then (if ((1 : Int32) + (q3.2.1 65 (x2 &&& (((1 : Int32) <<< (x5 &&& 31)) ^^^ (-1 : Int32))).toNatClampNeg)) = x3 then some (x5, q3.2)
   else m_X9_firstPartner_50 (m_X9_firstPartner_5 N fu) N x1 x2 x3 x4 x5 q3.2) else none))) else none))
def m_X9_firstPartner (N : Nat) (x1 : Int32) (x2 : Int32) (x3 : Int32) (x4 : Int32) (σ : g_St) : Option (Int32 × g_St) := (g_lt (x1 + (1 : Int32)) fun v1 => m_X9_firstPartner_5 N N x1 x2 x3 x4 v1 σ)
/-! m_J7_fill_66 -/
def m_J7_fill_66_5 (N : Nat) : Nat → Int32 → Int32 → Int32 → g_St → Option (g_St)
  | 0, _, _, _, _ => none
  | fu + 1, x1, x2, x3, σ => (if x3 ≤ x2 then some σ
   else (if g_in x2 6 then (g_lt (g_sI σ 66 x2.toNatClampNeg x1) fun σ3 => (g_lt (x2 + (1 : Int32)) fun v4 => m_J7_fill_66_5 N fu x1 v4 x3 σ3)) else none))
def m_J7_fill_66 (N : Nat) (x1 : Int32) (σ : g_St) : Option (g_St) := m_J7_fill_66_5 N N x1 (0 : Int32) (6 : Int32) σ
/-! m_X9_choose -/
def m_X9_choose_96 (k13 : Int32 → Int32 → Int32 → g_St → Option (g_St)) (N : Nat) (x2 : Int32) (x3 : Int32) (x4 : Int32) (σ : g_St) : Option (g_St) := (g_lt (x4 + (1 : Int32)) fun v1 => k13 x2 x3 v1 σ)
def m_X9_choose_93 (k13 : Int32 → Int32 → Int32 → g_St → Option (g_St)) (N : Nat) (x2 : Int32) (x4 : Int32) (x5 : Int32) (σ : g_St) : Option (g_St) := m_X9_choose_96 k13 N x2 x5 x4 σ
def m_X9_choose_13 (N : Nat) : Nat → Int32 → Int32 → Int32 → g_St → Option (g_St)
  | 0, _, _, _, _ => none
  | fu + 1, x2, x3, x4, σ => (if x2 ≤ x4 then some σ
   else ((m_X10_holds x3 x4 σ).bind fun q2 => (if q2.1 = 0 then m_X9_choose_96 (m_X9_choose_13 N fu) N x2 x3 x4 q2.2
   else (g_lt (x3 &&& (((1 : Int32) <<< (x4 &&& 31)) ^^^ (-1 : Int32))) fun v4 => (if g_in x3 64 then ((m_X9_firstPartner N x4 v4 (q2.2.1 65 x3.toNatClampNeg) x2 q2.2).bind fun q6 => (if q6.1 = (-1 : Int32) then m_X9_choose_93 (m_X9_choose_13 N fu) N x2 x4 v4 q6.2
   else (if g_in x4 6 then (g_lt (g_sI q6.2 66 x4.toNatClampNeg q6.1) fun σ9 => (if g_in q6.1 6 then (g_lt (g_sI σ9 66 q6.1.toNatClampNeg x4) fun σ11 => (g_lt (v4 &&& (((1 : Int32) <<< (q6.1 &&& 31)) ^^^ (-1 : Int32))) fun v12 => m_X9_choose_93 (m_X9_choose_13 N fu) N x2 x4 v12 σ11)) else none)) else none))) else none)))))
def m_X9_choose (N : Nat) (x1 : Int32) (x2 : Int32) (σ : g_St) : Option (g_St) := ((m_J7_fill_66 N (-1 : Int32) σ).bind fun σ1 => m_X9_choose_13 N N x2 x1 (0 : Int32) σ1)
/-! m_X9_match -/
def m_X9_match_46 (N : Nat) : Nat → Int32 → Int32 → g_St → Option (g_St)
  | 0, _, _, _ => none
  | fu + 1, x4, x5, σ => (if x4 < x5 then (if g_in x4 64 then (g_lt (g_sI σ 63 3 (σ.1 65 x4.toNatClampNeg)) fun σ3 => ((m_X9_choose N x4 (σ3.1 13 2) σ3).bind fun σ4 => some σ4)) else none)
   else ((m_X9_mostAmong N x5 (σ.1 13 2) σ).bind fun q5 => (if g_in x5 64 then (g_lt (g_sI q5.2 65 x5.toNatClampNeg q5.1) fun σ7 => (g_lt (x5 + (1 : Int32)) fun v8 => m_X9_match_46 N fu x4 v8 σ7)) else none)))
def m_X9_match_3 (N : Nat) : Nat → Int32 → Int32 → g_St → Option (g_St)
  | 0, _, _, _ => none
  | fu + 1, x3, x4, σ => (if (σ.1 13 2) ≤ x4 then (g_lt (((1 : Int32) <<< ((σ.1 13 2) &&& 31)) - (1 : Int32)) fun v2 => m_X9_match_46 N N v2 (0 : Int32) σ)
   else ((m_X9_fittingFor N x4 x3 σ).bind fun q3 => (if g_in x4 6 then (g_lt (g_sI q3.2 64 x4.toNatClampNeg q3.1) fun σ5 => (g_lt (x4 + (1 : Int32)) fun v6 => m_X9_match_3 N fu x3 v6 σ5)) else none)))
def m_X9_match (N : Nat) (x3 : Int32) (σ : g_St) : Option (g_St) := m_X9_match_3 N N x3 (0 : Int32) σ
/-! m_X10_feed -/
def m_X10_feed (x1 : Int32) (σ : g_St) : Option (Int32 × g_St) := (if x1 < 0 then some ((-1000000002 : Int32), σ)
   else (if x1 ≤ (255 : Int32) then (if (σ.1 0 12) < (250 : Int32) then (if g_in (σ.1 0 12) 250 then (g_lt (g_sI σ 1 (σ.1 0 12).toNatClampNeg x1) fun σ5 => (g_lt (g_sI σ5 0 12 ((σ5.1 0 12) + (1 : Int32))) fun σ6 => some ((σ6.1 0 12), σ6))) else none)
   else some ((-1000000004 : Int32), σ))
   else some ((-1000000002 : Int32), σ)))
/-! m_X10_forgetSeen -/
def m_X10_forgetSeen (σ : g_St) : Option (g_St) := (g_lt (g_sI σ 67 1 (0 : Int32)) fun σ1 => (g_lt (g_sI σ1 69 4 (0 : Int32)) fun σ2 => (g_lt (g_sI σ2 74 1 (0 : Int32)) fun σ3 => some σ3)))
/-! m_X10_town -/
def m_X10_town (N : Nat) (σ : g_St) : Option (Int32 × g_St) := ((m_X6_read_1 N (σ.1 0 12) σ).bind fun q1 => (g_lt (g_sI q1.2 0 12 (0 : Int32)) fun σ2 => (g_lt (g_sI σ2 0 13 (σ2.1 2 11)) fun σ3 => (if q1.1 = 0 then ((m_X7_copyFrom_3 σ3).bind fun σ5 => ((m_X4_copyFrom_6 σ5).bind fun σ6 => ((m_X10_forgetSeen σ6).bind fun σ7 => ((m_X5_clear σ7).bind fun σ8 => ((m_X3_clear σ8).bind fun σ9 => some ((σ9.1 13 2), σ9))))))
   else some (((-10 : Int32) - q1.1), σ3)))))
/-! m_X10_fault -/
def m_X10_fault (σ : g_St) : Option (Int32 × g_St) := some ((σ.1 0 13), σ)
/-! m_X10_spreadOf_17 -/
def m_X10_spreadOf_17_18 (N : Nat) : Nat → Int32 → Int32 → Int32 → Int32 → g_St → Option (Int32 × g_St)
  | 0, _, _, _, _, _ => none
  | fu + 1, x1, x2, x3, x4, σ => (if x1 ≤ x4 then some ((x3 - x2), σ)
   else (if g_in x4 6 then (g_lt (if (σ.1 17 x4.toNatClampNeg) < x2 then (σ.1 17 x4.toNatClampNeg) else x2) fun v3 => (if g_in x4 6 then (g_lt (if x3 < (σ.1 17 x4.toNatClampNeg) then (σ.1 17 x4.toNatClampNeg) else x3) fun v5 => (g_lt (x4 + (1 : Int32)) fun v6 => m_X10_spreadOf_17_18 N fu x1 v3 v5 v6 σ)) else none)) else none))
def m_X10_spreadOf_17 (N : Nat) (x1 : Int32) (σ : g_St) : Option (Int32 × g_St) := (if (1 : Int32) ≤ x1 then (g_lt (σ.1 17 0) fun v2 => (g_lt (σ.1 17 0) fun v3 => m_X10_spreadOf_17_18 N N x1 v2 v3 (1 : Int32) σ))
   else some ((0 : Int32), σ))
/-! m_X10_told -/
def m_X10_told (N : Nat) (x1 : Int32) (σ : g_St) : Option (Int32 × g_St) := (if x1 = (0 : Int32) then some ((σ.1 13 2), σ)
   else (if x1 = (1 : Int32) then some ((σ.1 13 3), σ)
   else (if x1 = (2 : Int32) then some ((σ.1 0 12), σ)
   else (if x1 = (3 : Int32) then some ((σ.1 16 6), σ)
   else (if x1 = (4 : Int32) then some ((σ.1 16 7), σ)
   else (if x1 = (5 : Int32) then some ((σ.1 13 4), σ)
   else (if x1 = (6 : Int32) then (if (σ.1 13 5) = 0 then some ((0 : Int32), σ)
   else some ((1 : Int32), σ))
   else (if x1 = (7 : Int32) then some ((σ.1 16 5), σ)
   else (if x1 = (8 : Int32) then ((m_X7_weightOf N (σ.1 16 5) σ).bind fun q11 => some (q11.1, q11.2))
   else (if x1 = (9 : Int32) then ((m_X10_spreadOf_17 N (σ.1 13 2) σ).bind fun q13 => some (q13.1, q13.2))
   else (if x1 = (10 : Int32) then some ((σ.1 67 1), σ)
   else (if x1 = (11 : Int32) then some ((σ.1 69 4), σ)
   else (if x1 = (12 : Int32) then some ((σ.1 74 1), σ)
   else (if x1 = (13 : Int32) then some ((σ.1 22 2), σ)
   else some ((-1000000002 : Int32), σ)))))))))))))))
/-! m_X10_isPerson -/
def m_X10_isPerson (x1 : Int32) (σ : g_St) : Option (Int32 × g_St) := (if x1 < 0 then some ((0 : Int32), σ)
   else (if (σ.1 13 2) ≤ x1 then some ((0 : Int32), σ)
   else some ((1 : Int32), σ)))
/-! m_X10_person -/
def m_X10_person (N : Nat) (x1 : Int32) (x2 : Int32) (σ : g_St) : Option (Int32 × g_St) := ((m_X10_isPerson x1 σ).bind fun q1 => (if q1.1 = 0 then some ((-1000000001 : Int32), q1.2)
   else (if x2 = (0 : Int32) then (if g_in x1 6 then some ((q1.2.1 17 x1.toNatClampNeg), q1.2) else none)
   else (if x2 = (1 : Int32) then (if g_in x1 6 then some ((q1.2.1 18 x1.toNatClampNeg), q1.2) else none)
   else (if x2 = (2 : Int32) then (if g_in x1 6 then ((m_X7_rightsAt N (q1.2.1 17 x1.toNatClampNeg) q1.2).bind fun q9 => some (q9.1, q9.2)) else none)
   else (if x2 = (3 : Int32) then ((m_X4_heldBy N x1 (q1.2.1 13 3) q1.2).bind fun q11 => some (q11.1, q11.2))
   else (if x2 = (4 : Int32) then ((m_X4_agingFor N x1 (q1.2.1 13 3) q1.2).bind fun q13 => some (q13.1, q13.2))
   else some ((-1000000002 : Int32), q1.2))))))))
/-! m_X10_isTicket -/
def m_X10_isTicket (x1 : Int32) (σ : g_St) : Option (Int32 × g_St) := (if x1 < 0 then some ((0 : Int32), σ)
   else (if (σ.1 13 3) ≤ x1 then some ((0 : Int32), σ)
   else some ((1 : Int32), σ)))
/-! m_X10_ticket -/
def m_X10_ticket (x1 : Int32) (x2 : Int32) (σ : g_St) : Option (Int32 × g_St) := ((m_X10_isTicket x1 σ).bind fun q1 => (if q1.1 = 0 then some ((-1000000001 : Int32), q1.2)
   else (if x2 = (0 : Int32) then (if g_in x1 8 then some ((q1.2.1 19 x1.toNatClampNeg), q1.2) else none)
   else (if x2 = (1 : Int32) then (if g_in x1 8 then some ((q1.2.1 14 x1.toNatClampNeg), q1.2) else none)
   else (if x2 = (2 : Int32) then (if g_in x1 8 then some ((q1.2.1 21 x1.toNatClampNeg), q1.2) else none)
   else (if x2 = (3 : Int32) then (if g_in x1 8 then some ((q1.2.1 20 x1.toNatClampNeg), q1.2) else none)
   else some ((-1000000002 : Int32), q1.2)))))))
/-! m_X10_isRight -/
def m_X10_isRight (x0 : Int32) (σ : g_St) : Option (Int32 × g_St) := (if x0 < 0 then some ((0 : Int32), σ)
   else (if (4 : Int32) ≤ x0 then some ((0 : Int32), σ)
   else some ((1 : Int32), σ)))
/-! m_X10_right -/
def m_X10_right (x1 : Int32) (σ : g_St) : Option (Int32 × g_St) := ((m_X10_isRight x1 σ).bind fun q1 => (if q1.1 = 0 then some ((-1000000002 : Int32), q1.2)
   else (if g_in x1 4 then some ((q1.2.1 15 x1.toNatClampNeg), q1.2) else none)))
/-! m_X10_drawTicket -/
def m_X10_drawTicket (x1 : Int32) (σ : g_St) : Option (Int32 × g_St) := ((m_X5_add σ).bind fun σ1 => ((m_X4_whoAges x1 σ1).bind fun q2 => ((m_X4_celebrate q2.1 q2.2).bind fun σ3 => ((m_X4_passDraw x1 σ3).bind fun σ4 => some (q2.1, σ4)))))
/-! m_X10_draw -/
def m_X10_draw (x1 : Int32) (σ : g_St) : Option (Int32 × g_St) := ((m_X10_isTicket x1 σ).bind fun q1 => (if q1.1 = 0 then some ((-1000000001 : Int32), q1.2)
   else ((m_X10_holds (q1.2.1 16 5) x1 q1.2).bind fun q3 => (if q3.1 = 0 then some ((-1000000003 : Int32), q3.2)
   else (if (q3.2.1 16 6) ≤ (90000 : Int32) then ((m_X10_drawTicket x1 q3.2).bind fun q6 => some (q6.1, q6.2))
   else some ((-1000000004 : Int32), q3.2))))))
/-! m_X10_nextSeed -/
def m_X10_nextSeed (x0 : Int32) (σ : g_St) : Option (Int32 × g_St) := some ((((((x0).toInt64 * (1103515245 : Int64)) + (12345 : Int64)) &&& (2147483647 : Int64))).toInt32, σ)
/-! m_X10_lotOf -/
def m_X10_lotOf (x0 : Int32) (x1 : Int32) (σ : g_St) : Option (Int32 × g_St) := (if (1 : Int32) ≤ x1 then (if x1 = 0 then none else some (((x0 / (65536 : Int32)) - (x0 / (65536 : Int32)) / x1 * x1), σ))
   else some ((0 : Int32), σ))
/-! m_X10_lots -/
def m_X10_lots_46 (N : Nat) : Nat → Int32 → Int32 → Int32 → g_St → Option (Int32 × g_St)
  | 0, _, _, _, _ => none
  | fu + 1, x1, x2, x3, σ => (if x1 ≤ x3 then some (x2, σ)
   else ((m_X10_nextSeed (σ.1 0 14) σ).bind fun q2 => (g_lt (g_sI q2.2 0 14 q2.1) fun σ3 => ((m_X7_weightOf N (σ3.1 16 5) σ3).bind fun q4 => ((m_X10_lotOf (σ3.1 0 14) q4.1 q4.2).bind fun q5 => ((m_X7_ticketAt N (σ3.1 16 5) q5.1 q5.2).bind fun q6 => ((m_X10_drawTicket q6.1 q6.2).bind fun q7 => (g_lt (x3 + (1 : Int32)) fun v8 => m_X10_lots_46 N fu x1 q6.1 v8 q7.2))))))))
def m_X10_lots (N : Nat) (x1 : Int32) (σ : g_St) : Option (Int32 × g_St) := (if x1 < (1 : Int32) then some ((-1000000002 : Int32), σ)
   else (if x1 ≤ (99 : Int32) then (if (σ.1 13 3) = 0 then some ((-1000000003 : Int32), σ)
   else (if (σ.1 16 6) ≤ (90000 : Int32) then m_X10_lots_46 N N x1 (-1 : Int32) (0 : Int32) σ
   else some ((-1000000004 : Int32), σ)))
   else some ((-1000000002 : Int32), σ)))
/-! m_X10_sell -/
def m_X10_sell_124 (x1 : Int32) (x2 : Int32) (σ : g_St) : Option (Int32 × g_St) := (if g_in x1 8 then (g_lt (g_sI σ 19 x1.toNatClampNeg x2) fun σ2 => (if g_in x2 6 then some ((σ2.1 18 x2.toNatClampNeg), σ2) else none)) else none)
def m_X10_sell (x1 : Int32) (x2 : Int32) (σ : g_St) : Option (Int32 × g_St) := ((m_X10_isTicket x1 σ).bind fun q1 => (if q1.1 = 0 then some ((-1000000001 : Int32), q1.2)
   else ((m_X10_isPerson x2 q1.2).bind fun q3 => (if q3.1 = 0 then some ((-1000000001 : Int32), q3.2)
   else (if g_in x1 8 then (g_lt (q3.2.1 19 x1.toNatClampNeg) fun v6 => (if g_in x1 8 then (g_lt (q3.2.1 21 x1.toNatClampNeg) fun v8 => (if v6 = x2 then some ((-1000000003 : Int32), q3.2)
   else (if g_in x1 8 then (if (q3.2.1 20 x1.toNatClampNeg) = (-1 : Int32) then (if g_in x2 6 then (if v8 ≤ (q3.2.1 18 x2.toNatClampNeg) then (if g_in x2 6 then (if g_in x2 6 then (g_lt (g_sI q3.2 18 x2.toNatClampNeg ((q3.2.1 18 x2.toNatClampNeg) - v8)) fun σ16 => ((m_X10_isPerson v6 σ16).bind fun q17 => (if q17.1 = 0 then m_X10_sell_124 x1 x2 q17.2
   else (if g_in v6 6 then (if g_in v6 6 then (g_lt (g_sI q17.2 18 v6.toNatClampNeg (if ((q17.2.1 18 v6.toNatClampNeg) + v8) < (9999 : Int32) then ((q17.2.1 18 v6.toNatClampNeg) + v8) else (9999 : Int32))) fun σ21 => m_X10_sell_124 x1 x2 σ21) else none) else none)))) else none) else none)
   else some ((-1000000003 : Int32), q3.2)) else none)
   else some ((-1000000003 : Int32), q3.2)) else none))) else none)) else none)))))
/-! m_X10_isPersonOrNone -/
def m_X10_isPersonOrNone_13 (σ : g_St) : Option (Int32 × g_St) := some ((1 : Int32), σ)
def m_X10_isPersonOrNone (x1 : Int32) (σ : g_St) : Option (Int32 × g_St) := (if x1 = (-1 : Int32) then m_X10_isPersonOrNone_13 σ
   else ((m_X10_isPerson x1 σ).bind fun q2 => (if q2.1 = 0 then some ((0 : Int32), q2.2)
   else m_X10_isPersonOrNone_13 q2.2)))
/-! m_X10_pawn -/
def m_X10_pawn (x1 : Int32) (x2 : Int32) (σ : g_St) : Option (Int32 × g_St) := ((m_X10_isTicket x1 σ).bind fun q1 => (if q1.1 = 0 then some ((-1000000001 : Int32), q1.2)
   else ((m_X10_isPersonOrNone x2 q1.2).bind fun q3 => (if q3.1 = 0 then some ((-1000000001 : Int32), q3.2)
   else (if g_in x1 8 then (g_lt (q3.2.1 20 x1.toNatClampNeg) fun v6 => (if g_in x1 8 then (g_lt (g_sI q3.2 20 x1.toNatClampNeg x2) fun σ8 => some (v6, σ8)) else none)) else none)))))
/-! m_X10_price -/
def m_X10_price (x1 : Int32) (x2 : Int32) (σ : g_St) : Option (Int32 × g_St) := ((m_X10_isTicket x1 σ).bind fun q1 => (if q1.1 = 0 then some ((-1000000001 : Int32), q1.2)
   else (if x2 < 0 then some ((-1000000002 : Int32), q1.2)
   else (if x2 ≤ (99 : Int32) then (if g_in x1 8 then (g_lt (q1.2.1 21 x1.toNatClampNeg) fun v6 => (if g_in x1 8 then (g_lt (g_sI q1.2 21 x1.toNatClampNeg x2) fun σ8 => some (v6, σ8)) else none)) else none)
   else some ((-1000000002 : Int32), q1.2)))))
/-! m_X10_undo -/
def m_X10_undo (x1 : Int32) (σ : g_St) : Option (Int32 × g_St) := (if x1 < (1 : Int32) then some ((-1000000002 : Int32), σ)
   else (if x1 ≤ (30 : Int32) then (if x1 ≤ (σ.1 22 2) then ((m_X5_takeBack x1 σ).bind fun σ4 => some ((σ4.1 16 6), σ4))
   else some ((-1000000003 : Int32), σ))
   else some ((-1000000002 : Int32), σ)))
/-! m_X10_odds -/
def m_X10_odds (N : Nat) (x1 : Int32) (x2 : Int32) (σ : g_St) : Option (Int32 × g_St) := ((m_X10_isPerson x1 σ).bind fun q1 => (if q1.1 = 0 then some ((-1000000001 : Int32), q1.2)
   else (if x2 < 0 then some ((-1000000002 : Int32), q1.2)
   else (if x2 ≤ (8 : Int32) then ((m_X2_begin N (q1.2.1 16 5) ((q1.2.1 13 4) - (q1.2.1 16 7)) q1.2).bind fun σ5 => ((m_X4_agingFor N x1 (σ5.1 13 3) σ5).bind fun q6 => ((m_X2_atLeast N q6.1 x2 q6.2).bind fun q7 => some ((q7.1).toInt32, q7.2))))
   else some ((-1000000002 : Int32), q1.2)))))
/-! m_X10_never -/
def m_X10_never_90 (N : Nat) : Nat → Int32 → Int64 → Int64 → Int32 → g_St → Option (Int32 × g_St)
  | 0, _, _, _, _, _ => none
  | fu + 1, x2, x3, x5, x7, σ => (if x2 ≤ x7 then some ((x5).toInt32, σ)
   else (g_lt ((x5 * x3) / (1000000000 : Int64)) fun v2 => (g_lt (x7 + (1 : Int32)) fun v3 => m_X10_never_90 N fu x2 x3 v2 v3 σ)))
def m_X10_never (N : Nat) (x1 : Int32) (x2 : Int32) (σ : g_St) : Option (Int32 × g_St) := ((m_X10_isPerson x1 σ).bind fun q1 => (if q1.1 = 0 then some ((-1000000001 : Int32), q1.2)
   else (if x2 < (1 : Int32) then some ((-1000000002 : Int32), q1.2)
   else (if x2 ≤ (99 : Int32) then ((m_X7_everyTicket q1.2).bind fun q5 => ((m_X2_begin N q5.1 (q5.2.1 13 4) q5.2).bind fun σ6 => ((m_X4_agingFor N x1 (σ6.1 13 3) σ6).bind fun q7 => ((m_X2_atLeast N q7.1 (1 : Int32) q7.2).bind fun q8 => (g_lt ((1000000000 : Int64) - q8.1) fun v9 => m_X10_never_90 N N x2 v9 (1000000000 : Int64) (0 : Int32) q8.2)))))
   else some ((-1000000002 : Int32), q1.2)))))
/-! m_X10_cheapest -/
def m_X10_cheapest_200 (k95 : Int32 → Int64 → Int32 → Int32 → Int32 → Int32 → Int32 → Int32 → g_St → Option (Int32 × g_St)) (N : Nat) (x2 : Int32) (x3 : Int64) (x5 : Int32) (x6 : Int32) (x7 : Int32) (x8 : Int32) (x9 : Int32) (x10 : Int32) (σ : g_St) : Option (Int32 × g_St) := (g_lt (x10 + (1 : Int32)) fun v1 => k95 x2 x3 x5 x6 x7 x8 x9 v1 σ)
def m_X10_cheapest_159 (k95 : Int32 → Int64 → Int32 → Int32 → Int32 → Int32 → Int32 → Int32 → g_St → Option (Int32 × g_St)) (N : Nat) (x2 : Int32) (x3 : Int64) (x5 : Int32) (x6 : Int32) (x7 : Int32) (x8 : Int32) (x9 : Int32) (x10 : Int32) (x11 : Int32) (x12 : Int32) (s0 : Int32) (σ : g_St) : Option (Int32 × g_St) := (if s0 = 0 then m_X10_cheapest_200 k95 N x2 x3 x5 x6 x7 x8 x9 x10 σ
   else ((m_X2_atLeast N (x5 ||| x10) x2 σ).bind fun q2 => (if (lg_cmp q2.1 x3) < 0 then m_X10_cheapest_200 k95 N x2 x3 x5 x6 x7 x8 x9 x10 q2.2
   else m_X10_cheapest_200 k95 N x2 x3 x5 x6 x10 x11 x12 x10 q2.2)))
def m_X10_cheapest_154 (k95 : Int32 → Int64 → Int32 → Int32 → Int32 → Int32 → Int32 → Int32 → g_St → Option (Int32 × g_St)) (N : Nat) (x2 : Int32) (x3 : Int64) (x5 : Int32) (x6 : Int32) (x7 : Int32) (x8 : Int32) (x9 : Int32) (x10 : Int32) (x11 : Int32) (x12 : Int32) (σ : g_St) : Option (Int32 × g_St) := m_X10_cheapest_159 k95 N x2 x3 x5 x6 x7 x8 x9 x10 x11 x12 (1 : Int32) σ
def m_X10_cheapest_158 (k95 : Int32 → Int64 → Int32 → Int32 → Int32 → Int32 → Int32 → Int32 → g_St → Option (Int32 × g_St)) (N : Nat) (x2 : Int32) (x3 : Int64) (x5 : Int32) (x6 : Int32) (x7 : Int32) (x8 : Int32) (x9 : Int32) (x10 : Int32) (x11 : Int32) (x12 : Int32) (σ : g_St) : Option (Int32 × g_St) := m_X10_cheapest_159 k95 N x2 x3 x5 x6 x7 x8 x9 x10 x11 x12 (0 : Int32) σ
def m_X10_cheapest_95 (N : Nat) : Nat → Int32 → Int64 → Int32 → Int32 → Int32 → Int32 → Int32 → Int32 → g_St → Option (Int32 × g_St)
  | 0, _, _, _, _, _, _, _, _, _ => none
  | fu + 1, x2, x3, x5, x6, x7, x8, x9, x10, σ => (if x6 < x10 then some (x7, σ)
   else (if (x10 &&& (x6 ^^^ (-1 : Int32))) = 0 then ((m_X4_priceOf N x10 σ).bind fun q3 => ((m_J6_bitCount x10 q3.2).bind fun q4 => (if q3.1 < x8 then m_X10_cheapest_154 (m_X10_cheapest_95 N fu) N x2 x3 x5 x6 x7 x8 x9 x10 q3.1 q4.1 q4.2
   else (if q3.1 = x8 then (if x9 ≤ q4.1 then m_X10_cheapest_158 (m_X10_cheapest_95 N fu) N x2 x3 x5 x6 x7 x8 x9 x10 q3.1 q4.1 q4.2
   else m_X10_cheapest_154 (m_X10_cheapest_95 N fu) N x2 x3 x5 x6 x7 x8 x9 x10 q3.1 q4.1 q4.2)
   else m_X10_cheapest_158 (m_X10_cheapest_95 N fu) N x2 x3 x5 x6 x7 x8 x9 x10 q3.1 q4.1 q4.2))))
   else m_X10_cheapest_200 (m_X10_cheapest_95 N fu) N x2 x3 x5 x6 x7 x8 x9 x10 σ))
def m_X10_cheapest (N : Nat) (x1 : Int32) (x2 : Int32) (x3 : Int64) (σ : g_St) : Option (Int32 × g_St) := (if 0 < x2 then ((m_X2_begin N (σ.1 16 5) ((σ.1 13 4) - (σ.1 16 7)) σ).bind fun σ2 => ((m_X4_agingFor N x1 (σ2.1 13 3) σ2).bind fun q3 => ((m_X4_forSaleTo N x1 (q3.2.1 13 3) q3.2).bind fun q4 => (if g_in x1 6 then (g_lt ((q4.2.1 18 x1.toNatClampNeg) + (1 : Int32)) fun v6 => m_X10_cheapest_95 N N x2 x3 q3.1 q4.1 (-1 : Int32) v6 (0 : Int32) (0 : Int32) q4.2) else none))))
   else some ((0 : Int32), σ))
/-! m_X10_buy -/
def m_X10_buy (N : Nat) (x1 : Int32) (x2 : Int32) (x3 : Int32) (x4 : Int32) (σ : g_St) : Option (Int32 × g_St) := ((m_X10_isPerson x1 σ).bind fun q1 => (if q1.1 = 0 then some ((-1000000001 : Int32), q1.2)
   else ((m_X10_isRight x2 q1.2).bind fun q3 => (if q3.1 = 0 then some ((-1000000002 : Int32), q3.2)
   else (if x3 < 0 then some ((-1000000002 : Int32), q3.2)
   else (if (100 : Int32) < x3 then some ((-1000000002 : Int32), q3.2)
   else (if x4 < 0 then some ((-1000000002 : Int32), q3.2)
   else (if x4 ≤ (1 : Int32) then (if g_in x2 4 then (if g_in x1 6 then ((m_X10_cheapest N x1 ((q3.2.1 15 x2.toNatClampNeg) - (q3.2.1 17 x1.toNatClampNeg)) ((10000000 : Int64) * (x3).toInt64) q3.2).bind fun q11 => (if q11.1 = (-1 : Int32) then some (q11.1, q11.2)
   else (if x4 = (1 : Int32) then some (q11.1, q11.2)
   else ((m_X4_priceOf N q11.1 q11.2).bind fun q14 => some (q14.1, q14.2))))) else none) else none)
   else some ((-1000000002 : Int32), q3.2)))))))))
/-! m_X10_spreadOf_76 -/
def m_X10_spreadOf_76_18 (N : Nat) : Nat → Int32 → Int32 → Int32 → Int32 → g_St → Option (Int32 × g_St)
  | 0, _, _, _, _, _ => none
  | fu + 1, x1, x2, x3, x4, σ => (if x1 ≤ x4 then some ((x3 - x2), σ)
   else (if g_in x4 6 then (g_lt (if (σ.1 76 x4.toNatClampNeg) < x2 then (σ.1 76 x4.toNatClampNeg) else x2) fun v3 => (if g_in x4 6 then (g_lt (if x3 < (σ.1 76 x4.toNatClampNeg) then (σ.1 76 x4.toNatClampNeg) else x3) fun v5 => (g_lt (x4 + (1 : Int32)) fun v6 => m_X10_spreadOf_76_18 N fu x1 v3 v5 v6 σ)) else none)) else none))
def m_X10_spreadOf_76 (N : Nat) (x1 : Int32) (σ : g_St) : Option (Int32 × g_St) := (if (1 : Int32) ≤ x1 then (g_lt (σ.1 76 0) fun v2 => (g_lt (σ.1 76 0) fun v3 => m_X10_spreadOf_76_18 N N x1 v2 v3 (1 : Int32) σ))
   else some ((0 : Int32), σ))
/-! m_X10_spreadAfter -/
def m_X10_spreadAfter_157 (k26 : Int32 → Int32 → Int32 → Int32 → g_St → Option (Int32 × g_St)) (N : Nat) (x1 : Int32) (x2 : Int32) (x3 : Int32) (x4 : Int32) (σ : g_St) : Option (Int32 × g_St) := (g_lt (x4 + (1 : Int32)) fun v1 => k26 x1 x2 x3 v1 σ)
def m_X10_spreadAfter_151 (k26 : Int32 → Int32 → Int32 → Int32 → g_St → Option (Int32 × g_St)) (k44 : Int32 → Int32 → Int32 → Int32 → Int32 → Int32 → g_St → Option (Int32 × g_St)) (N : Nat) (x1 : Int32) (x2 : Int32) (x3 : Int32) (x4 : Int32) (x5 : Int32) (x6 : Int32) (σ : g_St) : Option (Int32 × g_St) := (g_lt (x6 + (1 : Int32)) fun v1 => k44 x1 x2 x3 x4 x5 v1 σ)
def m_X10_spreadAfter_127 (k26 : Int32 → Int32 → Int32 → Int32 → g_St → Option (Int32 × g_St)) (k44 : Int32 → Int32 → Int32 → Int32 → Int32 → Int32 → g_St → Option (Int32 × g_St)) (N : Nat) (x1 : Int32) (x2 : Int32) (x3 : Int32) (x4 : Int32) (x5 : Int32) (x6 : Int32) (x7 : Int32) (σ : g_St) : Option (Int32 × g_St) := (if x2 = 0 then ((m_X10_isTicket x7 σ).bind fun q2 => (if q2.1 = 0 then m_X10_spreadAfter_151 k26 k44 N x1 x2 x3 x4 x5 x6 q2.2
   else (g_lt (x5 &&& (((1 : Int32) <<< (x7 &&& 31)) ^^^ (-1 : Int32))) fun v4 => m_X10_spreadAfter_151 k26 k44 N x1 x2 x3 x4 v4 x6 q2.2)))
   else m_X10_spreadAfter_151 k26 k44 N x1 x2 x3 x4 x5 x6 σ)
def m_X10_spreadAfter_44 (k26 : Int32 → Int32 → Int32 → Int32 → g_St → Option (Int32 × g_St)) (N : Nat) : Nat → Int32 → Int32 → Int32 → Int32 → Int32 → Int32 → g_St → Option (Int32 × g_St)
  | 0, _, _, _, _, _, _, _ => none
  | fu + 1, x1, x2, x3, x4, x5, x6, σ => (if (σ.1 13 4) ≤ x6 then m_X10_spreadAfter_157 k26 N x1 x2 x3 x4 σ
   else (if x5 = 0 then m_X10_spreadAfter_157 k26 N x1 x2 x3 x4 σ
   else ((m_X10_nextSeed x3 σ).bind fun q3 => ((m_X7_weightOf N x5 q3.2).bind fun q4 => ((m_X10_lotOf q3.1 q4.1 q4.2).bind fun q5 => ((m_X7_ticketAt N x5 q5.1 q5.2).bind fun q6 => ((m_X4_whoAges q6.1 q6.2).bind fun q7 => ((m_X10_isPerson q7.1 q7.2).bind fun q8 => (if q8.1 = 0 then m_X10_spreadAfter_127 k26 (m_X10_spreadAfter_44 k26 N fu) N x1 x2 q3.1 x4 x5 x6 q6.1 q8.2
   else (if g_in q7.1 6 then ((m_X10_older (q8.2.1 76 q7.1.toNatClampNeg) q8.2).bind fun q11 => (if g_in q7.1 6 then (g_lt (g_sI q11.2 76 q7.1.toNatClampNeg q11.1) fun σ13 => m_X10_spreadAfter_127 k26 (m_X10_spreadAfter_44 k26 N fu) N x1 x2 q3.1 x4 x5 x6 q6.1 σ13) else none)) else none))))))))))
def m_X10_spreadAfter_26 (N : Nat) : Nat → Int32 → Int32 → Int32 → Int32 → g_St → Option (Int32 × g_St)
  | 0, _, _, _, _, _ => none
  | fu + 1, x1, x2, x3, x4, σ => (if x1 ≤ x4 then ((m_X10_spreadOf_76 N (σ.1 13 2) σ).bind fun q2 => some (q2.1, q2.2))
   else ((m_X7_everyTicket σ).bind fun q3 => m_X10_spreadAfter_44 (m_X10_spreadAfter_26 N fu) N N x1 x2 x3 x4 q3.1 (0 : Int32) q3.2))
def m_X10_spreadAfter (N : Nat) (x1 : Int32) (x2 : Int32) (σ : g_St) : Option (Int32 × g_St) := (g_lt (g_sA σ 76 (va_cpy (σ.1 17) (σ.1 76) 0 0 6)) fun σ1 => (g_lt (σ1.1 0 14) fun v2 => m_X10_spreadAfter_26 N N x1 x2 v2 (0 : Int32) σ1))
/-! m_X10_evens -/
def m_X10_evens (N : Nat) (x1 : Int32) (x2 : Int32) (σ : g_St) : Option (Int32 × g_St) := (if x1 < (1 : Int32) then some ((-1000000002 : Int32), σ)
   else (if (20 : Int32) < x1 then some ((-1000000002 : Int32), σ)
   else (if x2 < 0 then some ((-1000000002 : Int32), σ)
   else (if x2 ≤ (1 : Int32) then (if (σ.1 13 2) = 0 then some ((-1000000003 : Int32), σ)
   else (if (σ.1 13 3) = 0 then some ((-1000000003 : Int32), σ)
   else ((m_X10_spreadAfter N x1 (1 : Int32) σ).bind fun q7 => ((m_X10_spreadAfter N x1 (0 : Int32) q7.2).bind fun q8 => (if x2 = (1 : Int32) then some ((if q8.1 < q7.1 then q8.1 else q7.1), q8.2)
   else (if q7.1 = q8.1 then some ((2 : Int32), q8.2)
   else (if q8.1 ≤ q7.1 then some ((0 : Int32), q8.2)
   else some ((1 : Int32), q8.2))))))))
   else some ((-1000000002 : Int32), σ)))))
/-! m_X10_couples -/
def m_X10_couples (N : Nat) (x1 : Int32) (x2 : Int32) (σ : g_St) : Option (Int32 × g_St) := ((m_X10_isPersonOrNone x2 σ).bind fun q1 => (if q1.1 = 0 then some ((-1000000001 : Int32), q1.2)
   else (if x1 < 0 then some ((-1000000002 : Int32), q1.2)
   else (if x1 ≤ (99 : Int32) then ((m_X9_match N x1 q1.2).bind fun σ5 => (if x2 = (-1 : Int32) then some ((σ5.1 63 3), σ5)
   else (if g_in x2 6 then some ((σ5.1 66 x2.toNatClampNeg), σ5) else none)))
   else some ((-1000000002 : Int32), q1.2)))))
/-! m_X10_see -/
def m_X10_see (x1 : Int32) (σ : g_St) : Option (Int32 × g_St) := ((m_X10_isTicket x1 σ).bind fun q1 => (if q1.1 = 0 then some ((-1000000001 : Int32), q1.2)
   else (if (q1.2.1 67 1) < (8 : Int32) then ((m_X8_add x1 q1.2).bind fun q4 => some (q4.1, q4.2))
   else some ((-1000000004 : Int32), q1.2))))
/-! m_X10_belief -/
def m_X10_belief_16 (N : Nat) (x1 : Int32) (σ : g_St) : Option (Int32 × g_St) := ((m_X8_millionths N x1 σ).bind fun q1 => some (q1.1, q1.2))
def m_X10_belief (N : Nat) (x1 : Int32) (σ : g_St) : Option (Int32 × g_St) := (if x1 = (-1 : Int32) then m_X10_belief_16 N x1 σ
   else ((m_X10_isTicket x1 σ).bind fun q2 => (if q2.1 = 0 then some ((-1000000001 : Int32), q2.2)
   else m_X10_belief_16 N x1 q2.2)))
/-! m_X10_likeliest -/
def m_X10_likeliest (N : Nat) (σ : g_St) : Option (Int32 × g_St) := ((m_X8_heaviest N σ).bind fun q1 => some (q1.1, q1.2))
/-! m_X10_candles -/
def m_X10_candles (x1 : Int32) (x2 : Int32) (σ : g_St) : Option (Int32 × g_St) := ((m_X10_isPerson x1 σ).bind fun q1 => (if q1.1 = 0 then some ((-1000000001 : Int32), q1.2)
   else (if x2 < 0 then some ((-1000000002 : Int32), q1.2)
   else (if x2 ≤ (999 : Int32) then ((m_X1_light x1 x2 q1.2).bind fun q5 => some (q5.1, q5.2))
   else some ((-1000000002 : Int32), q1.2)))))
/-! m_X10_rows -/
def m_X10_rows (N : Nat) (x1 : Int32) (x2 : Int32) (σ : g_St) : Option (Int32 × g_St) := (if x1 < (1 : Int32) then some ((-1000000002 : Int32), σ)
   else (if x1 ≤ (4 : Int32) then (if (σ.1 13 3) = 0 then some ((-1000000003 : Int32), σ)
   else ((m_X1_search N x1 σ).bind fun σ4 => (if x2 = (-1 : Int32) then some ((σ4.1 69 5), σ4)
   else ((m_X1_firstAt x2 σ4).bind fun q6 => some (q6.1, q6.2)))))
   else some ((-1000000002 : Int32), σ)))
/-! m_X10_sure -/
def m_X10_sure (N : Nat) (x1 : Int32) (σ : g_St) : Option (Int32 × g_St) := (if x1 < (1 : Int32) then some ((-1000000002 : Int32), σ)
   else (if x1 ≤ (4 : Int32) then (if (σ.1 13 3) = 0 then some ((-1000000003 : Int32), σ)
   else ((m_X1_search N x1 σ).bind fun σ4 => (if (σ4.1 69 5) = 0 then some ((0 : Int32), σ4)
   else some ((σ4.1 69 6), σ4))))
   else some ((-1000000002 : Int32), σ)))
/-! m_X10_write -/
def m_X10_write (x1 : Int32) (σ : g_St) : Option (Int32 × g_St) := ((m_X10_isTicket x1 σ).bind fun q1 => (if q1.1 = 0 then some ((-1000000001 : Int32), q1.2)
   else (if (q1.2.1 74 1) < (20 : Int32) then ((m_X0_add x1 q1.2).bind fun q4 => some (q4.1, q4.2))
   else some ((-1000000004 : Int32), q1.2))))
/-! m_X10_judge -/
def m_X10_judge (N : Nat) (σ : g_St) : Option (Int32 × g_St) := ((m_X0_wrong N σ).bind fun q1 => some (q1.1, q1.2))
/-! m_X10_ageBy -/
def m_X10_ageBy (N : Nat) (x1 : Int32) (σ : g_St) : Option (Int32 × g_St) := ((m_X10_isPerson x1 σ).bind fun q1 => (if q1.1 = 0 then some ((-1000000001 : Int32), q1.2)
   else ((m_X0_ageBehind N x1 q1.2).bind fun q3 => some (q3.1, q3.2))))
/-! m_X10_tear -/
def m_X10_tear (σ : g_St) : Option (Int32 × g_St) := ((m_J6_bitCount (σ.1 69 4) σ).bind fun q1 => (g_lt (((σ.1 67 1) + q1.1) + (q1.2.1 74 1)) fun v2 => ((m_X10_forgetSeen q1.2).bind fun σ3 => some (v2, σ3))))
/-! m_X10_seed -/
def m_X10_seed (x1 : Int32) (σ : g_St) : Option (Int32 × g_St) := (if 0 ≤ x1 then (g_lt (σ.1 0 14) fun v2 => (g_lt (g_sI σ 0 14 x1) fun σ3 => some (v2, σ3)))
   else some ((-1000000002 : Int32), σ))
/-! m_X10_keep -/
def m_X10_keep (x1 : Int32) (σ : g_St) : Option (Int32 × g_St) := (if x1 < 0 then some ((-1000000001 : Int32), σ)
   else (if x1 < (2 : Int32) then ((m_X3_store x1 (σ.1 0 14) σ).bind fun σ3 => ((m_X5_clear σ3).bind fun σ4 => some ((1 : Int32), σ4)))
   else some ((-1000000001 : Int32), σ)))
/-! m_X10_goBack -/
def m_X10_goBack (x1 : Int32) (σ : g_St) : Option (Int32 × g_St) := (if x1 < 0 then some ((-1000000001 : Int32), σ)
   else (if x1 < (2 : Int32) then ((m_X3_has x1 σ).bind fun q3 => (if q3.1 = 0 then some ((-1000000003 : Int32), q3.2)
   else ((m_X3_restore x1 q3.2).bind fun q5 => (g_lt (g_sI q5.2 0 14 q5.1) fun σ6 => ((m_X5_clear σ6).bind fun σ7 => some ((1 : Int32), σ7))))))
   else some ((-1000000001 : Int32), σ)))
/-! m_X11_in -/
def m_X11_in (x0 : Int64) (x2 : Int64) (x4 : Int64) (σ : g_St) : Option (Int32 × g_St) := (if (lg_cmp x0 x2) < 0 then some ((0 : Int32), σ)
   else (if 0 < (lg_cmp x0 x4) then some ((0 : Int32), σ)
   else some ((1 : Int32), σ)))
/-! m_X11_plain -/
def m_X11_plain_2 (N : Nat) : Nat → Int32 → g_St → Option (g_St)
  | 0, _, _ => none
  | fu + 1, x1, σ => (if (45 : Int32) ≤ x1 then (g_lt (g_sI σ 78 2 (4 : Int32)) fun σ2 => (g_lt (g_sI σ2 78 3 (1 : Int32)) fun σ3 => (g_lt (g_sI σ3 78 5 (6 : Int32)) fun σ4 => (g_lt (g_sI σ4 78 6 (18 : Int32)) fun σ5 => (g_lt (g_sI σ5 78 7 (18 : Int32)) fun σ6 => (g_lt (g_sI σ6 78 8 (65 : Int32)) fun σ7 => some σ7))))))
   else (if g_in x1 45 then (g_lt (g_sI σ 78 x1.toNatClampNeg (0 : Int32)) fun σ9 => (g_lt (x1 + (1 : Int32)) fun v10 => m_X11_plain_2 N fu v10 σ9)) else none))
def m_X11_plain (N : Nat) (σ : g_St) : Option (g_St) := m_X11_plain_2 N N (0 : Int32) σ
/-! m_X11_all -/
def m_X11_all (σ : g_St) : Option (Int32 × g_St) := some ((((1 : Int32) <<< ((σ.1 79 1) &&& 31)) - (1 : Int32)), σ)
/-! m_X11_starts -/
def m_X11_starts_96 (N : Nat) : Nat → Int32 → g_St → Option (g_St)
  | 0, _, _ => none
  | fu + 1, x1, σ => (if (σ.1 79 1) ≤ x1 then (g_lt (g_sI σ 77 17 (0 : Int32)) fun σ2 => (g_lt (g_sI σ2 77 21 (0 : Int32)) fun σ3 => (g_lt (g_sI σ3 77 19 (0 : Int32)) fun σ4 => (g_lt (g_sI σ4 77 9 (0 : Int32)) fun σ5 => (g_lt (g_sI σ5 92 0 (0 : Int32)) fun σ6 => (g_lt (g_sI σ6 92 41 (0 : Int32)) fun σ7 => some σ7))))))
   else (if g_in ((21 : Int32) + ((3 : Int32) * x1)) 45 then (if g_in ((15 : Int32) + ((3 : Int32) * x1)) 39 then (g_lt (g_sI σ 81 ((15 : Int32) + ((3 : Int32) * x1)).toNatClampNeg (σ.1 79 ((21 : Int32) + ((3 : Int32) * x1)).toNatClampNeg)) fun σ10 => (if g_in (((15 : Int32) + ((3 : Int32) * x1)) + (1 : Int32)) 39 then (g_lt (g_sI σ10 81 (((15 : Int32) + ((3 : Int32) * x1)) + (1 : Int32)).toNatClampNeg (-1 : Int32)) fun σ12 => (if g_in (((21 : Int32) + ((3 : Int32) * x1)) + (2 : Int32)) 45 then (if g_in (((15 : Int32) + ((3 : Int32) * x1)) + (2 : Int32)) 39 then (g_lt (g_sI σ12 81 (((15 : Int32) + ((3 : Int32) * x1)) + (2 : Int32)).toNatClampNeg (σ12.1 79 (((21 : Int32) + ((3 : Int32) * x1)) + (2 : Int32)).toNatClampNeg)) fun σ15 => (g_lt (x1 + (1 : Int32)) fun v16 => m_X11_starts_96 N fu v16 σ15)) else none) else none)) else none)) else none) else none))
def m_X11_starts_59 (N : Nat) : Nat → Int32 → g_St → Option (g_St)
  | 0, _, _ => none
  | fu + 1, x1, σ => (if ((2 : Int32) * (σ.1 79 0)) ≤ x1 then m_X11_starts_96 N N (0 : Int32) σ
   else (if g_in ((9 : Int32) + x1) 45 then (if g_in ((3 : Int32) + x1) 39 then (g_lt (g_sI σ 81 ((3 : Int32) + x1).toNatClampNeg (σ.1 79 ((9 : Int32) + x1).toNatClampNeg)) fun σ4 => (g_lt (x1 + (1 : Int32)) fun v5 => m_X11_starts_59 N fu v5 σ4)) else none) else none))
def m_X11_starts_28 (N : Nat) : Nat → Int32 → g_St → Option (g_St)
  | 0, _, _ => none
  | fu + 1, x1, σ => (if (39 : Int32) ≤ x1 then ((m_X11_all σ).bind fun q2 => (g_lt (g_sI q2.2 81 2 q2.1) fun σ3 => m_X11_starts_59 N N (0 : Int32) σ3))
   else (if g_in x1 39 then (g_lt (g_sI σ 81 x1.toNatClampNeg (0 : Int32)) fun σ5 => (g_lt (x1 + (1 : Int32)) fun v6 => m_X11_starts_28 N fu v6 σ5)) else none))
def m_X11_starts_2 (N : Nat) : Nat → Int32 → g_St → Option (g_St)
  | 0, _, _ => none
  | fu + 1, x1, σ => (if (45 : Int32) ≤ x1 then m_X11_starts_28 N N (0 : Int32) σ
   else (if g_in x1 45 then (if g_in x1 45 then (g_lt (g_sI σ 79 x1.toNatClampNeg (σ.1 78 x1.toNatClampNeg)) fun σ4 => (g_lt (x1 + (1 : Int32)) fun v5 => m_X11_starts_2 N fu v5 σ4)) else none) else none))
def m_X11_starts (N : Nat) (σ : g_St) : Option (g_St) := m_X11_starts_2 N N (0 : Int32) σ
/-! m_X11_feed -/
def m_X11_feed (x1 : Int32) (σ : g_St) : Option (Int32 × g_St) := ((m_X11_in (x1).toInt64 (0 : Int64) (255 : Int64) σ).bind fun q1 => (if q1.1 = 0 then some ((-1000000002 : Int32), q1.2)
   else (if (q1.2.1 77 3) = (250 : Int32) then some ((-1000000004 : Int32), q1.2)
   else (if g_in (q1.2.1 77 3) 250 then (g_lt (g_sI q1.2 80 (q1.2.1 77 3).toNatClampNeg x1) fun σ5 => (g_lt (g_sI σ5 77 3 ((σ5.1 77 3) + (1 : Int32))) fun σ6 => some ((σ6.1 77 3), σ6))) else none))))
/-! m_X11_here -/
def m_X11_here_38 (N : Nat) (σ : g_St) : Option (Int32 × g_St) := (if (σ.1 77 3) ≤ (σ.1 77 4) then some ((-1 : Int32), σ)
   else (if g_in (σ.1 77 4) 250 then some ((σ.1 80 (σ.1 77 4).toNatClampNeg), σ) else none))
def m_X11_here_0 (N : Nat) : Nat → g_St → Option (Int32 × g_St)
  | 0, _ => none
  | fu + 1, σ => (if (σ.1 77 3) ≤ (σ.1 77 4) then m_X11_here_38 N σ
   else (if g_in (σ.1 77 4) 250 then (if (σ.1 80 (σ.1 77 4).toNatClampNeg) = (32 : Int32) then (g_lt (g_sI σ 77 4 ((σ.1 77 4) + (1 : Int32))) fun σ4 => m_X11_here_0 N fu σ4)
   else m_X11_here_38 N σ) else none))
def m_X11_here (N : Nat) (σ : g_St) : Option (Int32 × g_St) := m_X11_here_0 N N σ
/-! m_X11_faults -/
def m_X11_faults (x1 : Int32) (x2 : Int32) (σ : g_St) : Option (g_St) := (if (σ.1 77 5) = 0 then (g_lt (g_sI σ 77 5 x1) fun σ2 => (g_lt (g_sI σ2 77 6 x2) fun σ3 => some σ3))
   else some σ)
/-! m_X11_number -/
def m_X11_number_127 (N : Nat) (x1 : Int32) (x2 : Int32) (x3 : Int32) (x4 : Int32) (σ : g_St) : Option (Int32 × g_St) := ((m_X11_in (x4).toInt64 (x1).toInt64 (x2).toInt64 σ).bind fun q1 => (if q1.1 = 0 then ((m_X11_faults (2 : Int32) x3 q1.2).bind fun σ3 => some (x4, σ3))
   else some (x4, q1.2)))
def m_X11_number_112 (k45 : Int32 → Int32 → Int32 → Int32 → g_St → Option (Int32 × g_St)) (N : Nat) (x1 : Int32) (x2 : Int32) (x3 : Int32) (s0 : Int32) (σ : g_St) : Option (Int32 × g_St) := (g_lt (g_sI σ 77 4 ((σ.1 77 4) + (1 : Int32))) fun σ1 => k45 x1 x2 x3 s0 σ1)
def m_X11_number_45 (N : Nat) : Nat → Int32 → Int32 → Int32 → Int32 → g_St → Option (Int32 × g_St)
  | 0, _, _, _, _, _ => none
  | fu + 1, x1, x2, x3, x4, σ => (if (σ.1 77 3) ≤ (σ.1 77 4) then m_X11_number_127 N x1 x2 x3 x4 σ
   else (if g_in (σ.1 77 4) 250 then ((m_X11_in ((σ.1 80 (σ.1 77 4).toNatClampNeg)).toInt64 (48 : Int64) (57 : Int64) σ).bind fun q3 => (if q3.1 = 0 then m_X11_number_127 N x1 x2 x3 x4 q3.2
   else (if ((q3.2.1 77 4) - x3) ≤ (2 : Int32) then (if g_in (q3.2.1 77 4) 250 then m_X11_number_112 (m_X11_number_45 N fu) N x1 x2 x3 ((((10 : Int32) * x4) + (q3.2.1 80 (q3.2.1 77 4).toNatClampNeg)) - (48 : Int32)) q3.2 else none)
   else m_X11_number_112 (m_X11_number_45 N fu) N x1 x2 x3 (9999 : Int32) q3.2))) else none))
def m_X11_number (N : Nat) (x1 : Int32) (x2 : Int32) (σ : g_St) : Option (Int32 × g_St) := (if (σ.1 77 5) = 0 then ((m_X11_here N σ).bind fun q2 => ((m_X11_in (q2.1).toInt64 (48 : Int64) (57 : Int64) q2.2).bind fun q3 => (if q3.1 = 0 then ((m_X11_faults (1 : Int32) (q3.2.1 77 4) q3.2).bind fun σ6 => some (x1, σ6))
   else (g_lt (q3.2.1 77 4) fun v5 => m_X11_number_45 N N x1 x2 v5 (0 : Int32) q3.2))))
   else some (x1, σ))
/-! m_X11_readPerson -/
def m_X11_readPerson (N : Nat) (σ : g_St) : Option (g_St) := (g_lt ((9 : Int32) + ((2 : Int32) * (σ.1 78 0))) fun v1 => ((m_X11_number N (0 : Int32) (99 : Int32) σ).bind fun q2 => (if g_in v1 45 then (g_lt (g_sI q2.2 78 v1.toNatClampNeg q2.1) fun σ4 => ((m_X11_number N (0 : Int32) (999 : Int32) σ4).bind fun q5 => (if g_in (v1 + (1 : Int32)) 45 then (g_lt (g_sI q5.2 78 (v1 + (1 : Int32)).toNatClampNeg q5.1) fun σ7 => (g_lt (g_sI σ7 78 0 ((σ7.1 78 0) + (1 : Int32))) fun σ8 => some σ8)) else none))) else none)))
/-! m_X11_readTicket -/
def m_X11_readTicket (N : Nat) (σ : g_St) : Option (g_St) := (g_lt ((21 : Int32) + ((3 : Int32) * (σ.1 78 1))) fun v1 => ((m_X11_number N (0 : Int32) ((σ.1 78 0) - (1 : Int32)) σ).bind fun q2 => (if g_in v1 45 then (g_lt (g_sI q2.2 78 v1.toNatClampNeg q2.1) fun σ4 => ((m_X11_number N (1 : Int32) (9 : Int32) σ4).bind fun q5 => (if g_in (v1 + (1 : Int32)) 45 then (g_lt (g_sI q5.2 78 (v1 + (1 : Int32)).toNatClampNeg q5.1) fun σ7 => ((m_X11_number N (0 : Int32) (99 : Int32) σ7).bind fun q8 => (if g_in (v1 + (2 : Int32)) 45 then (g_lt (g_sI q8.2 78 (v1 + (2 : Int32)).toNatClampNeg q8.1) fun σ10 => (g_lt (g_sI σ10 78 1 ((σ10.1 78 1) + (1 : Int32))) fun σ11 => some σ11)) else none))) else none))) else none)))
/-! m_X11_clause -/
def m_X11_clause_267 (N : Nat) (σ : g_St) : Option (g_St) := (g_lt (g_sI σ 77 4 ((σ.1 77 4) + (1 : Int32))) fun σ1 => some σ1)
def m_X11_clause_242 (N : Nat) (σ : g_St) : Option (g_St) := (if (σ.1 77 5) = 0 then ((m_X11_here N σ).bind fun q2 => (if q2.1 = (59 : Int32) then m_X11_clause_267 N q2.2
   else ((m_X11_faults (1 : Int32) (q2.2.1 77 4) q2.2).bind fun σ4 => m_X11_clause_267 N σ4)))
   else m_X11_clause_267 N σ)
def m_X11_clause_206 (N : Nat) : Nat → Int32 → g_St → Option (g_St)
  | 0, _, _ => none
  | fu + 1, x3, σ => (if (4 : Int32) ≤ x3 then (g_lt (g_sI σ 78 4 ((σ.1 78 4) ||| (2 : Int32))) fun σ2 => m_X11_clause_242 N σ2)
   else ((m_X11_number N (0 : Int32) (99 : Int32) σ).bind fun q3 => (if g_in ((5 : Int32) + x3) 45 then (g_lt (g_sI q3.2 78 ((5 : Int32) + x3).toNatClampNeg q3.1) fun σ5 => (g_lt (x3 + (1 : Int32)) fun v6 => m_X11_clause_206 N fu v6 σ5)) else none)))
def m_X11_clause_116 (N : Nat) (x1 : Int32) (σ : g_St) : Option (g_St) := (if (σ.1 77 5) = 0 then (g_lt (g_sI σ 77 4 ((σ.1 77 4) + (1 : Int32))) fun σ2 => (if x1 = (112 : Int32) then ((m_X11_readPerson N σ2).bind fun σ12 => m_X11_clause_242 N σ12)
   else (if x1 = (116 : Int32) then ((m_X11_readTicket N σ2).bind fun σ11 => m_X11_clause_242 N σ11)
   else (if x1 = (121 : Int32) then ((m_X11_number N (1 : Int32) (8 : Int32) σ2).bind fun q6 => (g_lt (g_sI q6.2 78 2 q6.1) fun σ7 => ((m_X11_number N (0 : Int32) (1 : Int32) σ7).bind fun q8 => (g_lt (g_sI q8.2 78 3 q8.1) fun σ9 => (g_lt (g_sI σ9 78 4 ((σ9.1 78 4) ||| (1 : Int32))) fun σ10 => m_X11_clause_242 N σ10)))))
   else m_X11_clause_206 N N (0 : Int32) σ2))))
   else some σ)
def m_X11_clause_86 (N : Nat) (x1 : Int32) (x2 : Int32) (σ : g_St) : Option (g_St) := (if x1 = (112 : Int32) then m_X11_clause_116 N x1 σ
   else (if x1 = (116 : Int32) then m_X11_clause_116 N x1 σ
   else (if x1 = (121 : Int32) then m_X11_clause_116 N x1 σ
   else (if x1 = (114 : Int32) then m_X11_clause_116 N x1 σ
   else ((m_X11_faults (1 : Int32) x2 σ).bind fun σ5 => m_X11_clause_116 N x1 σ5)))))
def m_X11_clause_80 (N : Nat) (x1 : Int32) (x2 : Int32) (σ : g_St) : Option (g_St) := ((m_X11_faults (3 : Int32) x2 σ).bind fun σ1 => m_X11_clause_86 N x1 x2 σ1)
def m_X11_clause_62 (N : Nat) (x1 : Int32) (x2 : Int32) (σ : g_St) : Option (g_St) := (if x1 = (114 : Int32) then (if ((σ.1 78 4) &&& (2 : Int32)) = (2 : Int32) then m_X11_clause_80 N x1 x2 σ
   else m_X11_clause_86 N x1 x2 σ)
   else m_X11_clause_86 N x1 x2 σ)
def m_X11_clause_44 (N : Nat) (x1 : Int32) (x2 : Int32) (σ : g_St) : Option (g_St) := (if x1 = (121 : Int32) then (if ((σ.1 78 4) &&& (1 : Int32)) = (1 : Int32) then m_X11_clause_80 N x1 x2 σ
   else m_X11_clause_62 N x1 x2 σ)
   else m_X11_clause_62 N x1 x2 σ)
def m_X11_clause_27 (N : Nat) (x1 : Int32) (x2 : Int32) (σ : g_St) : Option (g_St) := (if x1 = (116 : Int32) then (if (σ.1 78 1) = (8 : Int32) then m_X11_clause_80 N x1 x2 σ
   else m_X11_clause_44 N x1 x2 σ)
   else m_X11_clause_44 N x1 x2 σ)
def m_X11_clause (N : Nat) (σ : g_St) : Option (g_St) := ((m_X11_here N σ).bind fun q1 => (g_lt (q1.2.1 77 4) fun v2 => (if q1.1 = (112 : Int32) then (if (q1.2.1 78 0) = (6 : Int32) then m_X11_clause_80 N q1.1 v2 q1.2
   else m_X11_clause_27 N q1.1 v2 q1.2)
   else m_X11_clause_27 N q1.1 v2 q1.2)))
/-! m_X11_town -/
def m_X11_town_40 (N : Nat) (σ : g_St) : Option (Int32 × g_St) := (g_lt (g_sI σ 77 3 (0 : Int32)) fun σ1 => (if (σ1.1 77 5) = 0 then ((m_X11_starts N σ1).bind fun σ3 => some ((σ3.1 79 0), σ3))
   else some (((-10 : Int32) - (σ1.1 77 5)), σ1)))
def m_X11_town_19 (N : Nat) : Nat → g_St → Option (Int32 × g_St)
  | 0, _ => none
  | fu + 1, σ => (if (σ.1 77 5) = 0 then ((m_X11_here N σ).bind fun q2 => (if q2.1 < 0 then m_X11_town_40 N q2.2
   else ((m_X11_clause N q2.2).bind fun σ4 => m_X11_town_19 N fu σ4)))
   else m_X11_town_40 N σ)
def m_X11_town (N : Nat) (σ : g_St) : Option (Int32 × g_St) := (g_lt (g_sI σ 77 4 (0 : Int32)) fun σ1 => (g_lt (g_sI σ1 77 5 (0 : Int32)) fun σ2 => (g_lt (g_sI σ2 77 6 (-1 : Int32)) fun σ3 => ((m_X11_plain N σ3).bind fun σ4 => m_X11_town_19 N N σ4))))
/-! m_X11_fault -/
def m_X11_fault (σ : g_St) : Option (Int32 × g_St) := some ((σ.1 77 6), σ)
/-! m_X11_isPerson -/
def m_X11_isPerson (x1 : Int32) (σ : g_St) : Option (Int32 × g_St) := ((m_X11_in (x1).toInt64 (0 : Int64) (((σ.1 79 0) - (1 : Int32))).toInt64 σ).bind fun q1 => (if g_b01 q1.1 then some (q1.1, q1.2) else none))
/-! m_X11_isTicket -/
def m_X11_isTicket (x1 : Int32) (σ : g_St) : Option (Int32 × g_St) := ((m_X11_in (x1).toInt64 (0 : Int64) (((σ.1 79 1) - (1 : Int32))).toInt64 σ).bind fun q1 => (if g_b01 q1.1 then some (q1.1, q1.2) else none))
/-! m_X11_weight -/
def m_X11_weight (x1 : Int32) (σ : g_St) : Option (Int32 × g_St) := (if g_in (((21 : Int32) + ((3 : Int32) * x1)) + (1 : Int32)) 45 then some ((σ.1 79 (((21 : Int32) + ((3 : Int32) * x1)) + (1 : Int32)).toNatClampNeg), σ) else none)
/-! m_X11_weightOf -/
def m_X11_weightOf_33 (k4 : Int32 → Int32 → Int32 → g_St → Option (Int32 × g_St)) (N : Nat) (x1 : Int32) (x3 : Int32) (s0 : Int32) (s1 : Int32) (σ : g_St) : Option (Int32 × g_St) := (g_lt (s0 + s1) fun v1 => (g_lt (x3 + (1 : Int32)) fun v2 => k4 x1 v1 v2 σ))
def m_X11_weightOf_4 (N : Nat) : Nat → Int32 → Int32 → Int32 → g_St → Option (Int32 × g_St)
  | 0, _, _, _, _ => none
  | fu + 1, x1, x2, x3, σ => (if (σ.1 79 1) ≤ x3 then some (x2, σ)
   else (if ((x1 >>> (x3 &&& 31)) &&& (1 : Int32)) = (1 : Int32) then ((m_X11_weight x3 σ).bind fun q3 => m_X11_weightOf_33 (m_X11_weightOf_4 N fu) N x1 x3 x2 q3.1 q3.2)
   else m_X11_weightOf_33 (m_X11_weightOf_4 N fu) N x1 x3 x2 (0 : Int32) σ))
def m_X11_weightOf (N : Nat) (x1 : Int32) (σ : g_St) : Option (Int32 × g_St) := m_X11_weightOf_4 N N x1 (0 : Int32) (0 : Int32) σ
/-! m_X11_who -/
def m_X11_who (x1 : Int32) (σ : g_St) : Option (Int32 × g_St) := (if g_in (((15 : Int32) + ((3 : Int32) * x1)) + (1 : Int32)) 39 then (g_lt (σ.1 81 (((15 : Int32) + ((3 : Int32) * x1)) + (1 : Int32)).toNatClampNeg) fun v2 => (if v2 = (-1 : Int32) then (if g_in ((15 : Int32) + ((3 : Int32) * x1)) 39 then some ((σ.1 81 ((15 : Int32) + ((3 : Int32) * x1)).toNatClampNeg), σ) else none)
   else some (v2, σ))) else none)
/-! m_X11_own -/
def m_X11_own_31 (k4 : Int32 → Int32 → Int32 → g_St → Option (Int32 × g_St)) (N : Nat) (x1 : Int32) (x3 : Int32) (s0 : Int32) (s1 : Int32) (σ : g_St) : Option (Int32 × g_St) := (g_lt (s0 ||| s1) fun v1 => (g_lt (x3 + (1 : Int32)) fun v2 => k4 x1 v1 v2 σ))
def m_X11_own_4 (N : Nat) : Nat → Int32 → Int32 → Int32 → g_St → Option (Int32 × g_St)
  | 0, _, _, _, _ => none
  | fu + 1, x1, x2, x3, σ => (if (σ.1 79 1) ≤ x3 then some (x2, σ)
   else ((m_X11_who x3 σ).bind fun q2 => (if q2.1 = x1 then m_X11_own_31 (m_X11_own_4 N fu) N x1 x3 x2 ((1 : Int32) <<< (x3 &&& 31)) q2.2
   else m_X11_own_31 (m_X11_own_4 N fu) N x1 x3 x2 (0 : Int32) q2.2)))
def m_X11_own (N : Nat) (x1 : Int32) (σ : g_St) : Option (Int32 × g_St) := m_X11_own_4 N N x1 (0 : Int32) (0 : Int32) σ
/-! m_X11_held -/
def m_X11_held_37 (k4 : Int32 → Int32 → Int32 → g_St → Option (Int32 × g_St)) (N : Nat) (x1 : Int32) (x3 : Int32) (s0 : Int32) (s1 : Int32) (σ : g_St) : Option (Int32 × g_St) := (g_lt (s0 ||| s1) fun v1 => (g_lt (x3 + (1 : Int32)) fun v2 => k4 x1 v1 v2 σ))
def m_X11_held_4 (N : Nat) : Nat → Int32 → Int32 → Int32 → g_St → Option (Int32 × g_St)
  | 0, _, _, _, _ => none
  | fu + 1, x1, x2, x3, σ => (if (σ.1 79 1) ≤ x3 then some (x2, σ)
   else (if g_in ((15 : Int32) + ((3 : Int32) * x3)) 39 then (if (σ.1 81 ((15 : Int32) + ((3 : Int32) * x3)).toNatClampNeg) = x1 then m_X11_held_37 (m_X11_held_4 N fu) N x1 x3 x2 ((1 : Int32) <<< (x3 &&& 31)) σ
   else m_X11_held_37 (m_X11_held_4 N fu) N x1 x3 x2 (0 : Int32) σ) else none))
def m_X11_held (N : Nat) (x1 : Int32) (σ : g_St) : Option (Int32 × g_St) := m_X11_held_4 N N x1 (0 : Int32) (0 : Int32) σ
/-! m_X11_spread -/
def m_X11_spread_55 (k8 : Int32 → Int32 → Int32 → g_St → Option (Int32 × g_St)) (N : Nat) (x1 : Int32) (x3 : Int32) (s0 : Int32) (σ : g_St) : Option (Int32 × g_St) := (g_lt (x3 + (1 : Int32)) fun v1 => k8 x1 s0 v1 σ)
def m_X11_spread_42 (k8 : Int32 → Int32 → Int32 → g_St → Option (Int32 × g_St)) (N : Nat) (x2 : Int32) (x3 : Int32) (x4 : Int32) (s0 : Int32) (σ : g_St) : Option (Int32 × g_St) := (if x4 ≤ x2 then m_X11_spread_55 k8 N s0 x3 x2 σ
   else m_X11_spread_55 k8 N s0 x3 x4 σ)
def m_X11_spread_8 (N : Nat) : Nat → Int32 → Int32 → Int32 → g_St → Option (Int32 × g_St)
  | 0, _, _, _, _ => none
  | fu + 1, x1, x2, x3, σ => (if (σ.1 79 0) ≤ x3 then (if (σ.1 79 0) = 0 then some ((0 : Int32), σ)
   else some ((x2 - x1), σ))
   else (if g_in ((3 : Int32) + ((2 : Int32) * x3)) 39 then (g_lt (σ.1 81 ((3 : Int32) + ((2 : Int32) * x3)).toNatClampNeg) fun v4 => (if x1 ≤ v4 then m_X11_spread_42 (m_X11_spread_8 N fu) N x2 x3 v4 x1 σ
   else m_X11_spread_42 (m_X11_spread_8 N fu) N x2 x3 v4 v4 σ)) else none))
def m_X11_spread (N : Nat) (σ : g_St) : Option (Int32 × g_St) := m_X11_spread_8 N N (9999 : Int32) (0 : Int32) (0 : Int32) σ
/-! m_X11_told -/
def m_X11_told_72 (N : Nat) (x1 : Int32) (σ : g_St) : Option (Int32 × g_St) := (if g_in x1 45 then some ((σ.1 79 x1.toNatClampNeg), σ) else none)
def m_X11_told_84 (N : Nat) (x1 : Int32) (σ : g_St) : Option (Int32 × g_St) := (if g_in (x1 - (3 : Int32)) 39 then some ((σ.1 81 (x1 - (3 : Int32)).toNatClampNeg), σ) else none)
def m_X11_told_93 (N : Nat) (x1 : Int32) (σ : g_St) : Option (Int32 × g_St) := (if g_in (x1 - (3 : Int32)) 45 then some ((σ.1 79 (x1 - (3 : Int32)).toNatClampNeg), σ) else none)
def m_X11_told (N : Nat) (x1 : Int32) (σ : g_St) : Option (Int32 × g_St) := (if x1 = (0 : Int32) then m_X11_told_72 N x1 σ
   else (if x1 = (1 : Int32) then m_X11_told_72 N x1 σ
   else (if x1 = (2 : Int32) then some ((σ.1 77 3), σ)
   else (if x1 = (3 : Int32) then m_X11_told_84 N x1 σ
   else (if x1 = (4 : Int32) then m_X11_told_84 N x1 σ
   else (if x1 = (5 : Int32) then m_X11_told_93 N x1 σ
   else (if x1 = (6 : Int32) then m_X11_told_93 N x1 σ
   else (if x1 = (7 : Int32) then some ((σ.1 81 2), σ)
   else (if x1 = (8 : Int32) then ((m_X11_weightOf N (σ.1 81 2) σ).bind fun q10 => some (q10.1, q10.2))
   else (if x1 = (9 : Int32) then ((m_X11_spread N σ).bind fun q12 => some (q12.1, q12.2))
   else (if x1 = (10 : Int32) then some ((σ.1 77 17), σ)
   else (if x1 = (11 : Int32) then some ((σ.1 77 19), σ)
   else (if x1 = (12 : Int32) then some ((σ.1 77 21), σ)
   else (if x1 = (13 : Int32) then some ((σ.1 77 9), σ)
   else some ((-1000000002 : Int32), σ)))))))))))))))
/-! m_X11_person -/
def m_X11_person_96 (N : Nat) (x1 : Int32) (x2 : Int32) (σ : g_St) : Option (Int32 × g_St) := (if g_in (((3 : Int32) + ((2 : Int32) * x1)) + x2) 39 then some ((σ.1 81 (((3 : Int32) + ((2 : Int32) * x1)) + x2).toNatClampNeg), σ) else none)
def m_X11_person_53 (k16 : Int32 → Int32 → Int32 → Int32 → g_St → Option (Int32 × g_St)) (N : Nat) (x1 : Int32) (x2 : Int32) (x4 : Int32) (s0 : Int32) (s1 : Int32) (σ : g_St) : Option (Int32 × g_St) := (g_lt (s0 ||| s1) fun v1 => (g_lt (x4 + (1 : Int32)) fun v2 => k16 x1 x2 v1 v2 σ))
def m_X11_person_16 (N : Nat) : Nat → Int32 → Int32 → Int32 → Int32 → g_St → Option (Int32 × g_St)
  | 0, _, _, _, _, _ => none
  | fu + 1, x1, x2, x3, x4, σ => (if (4 : Int32) ≤ x4 then (if x2 = (0 : Int32) then m_X11_person_96 N x1 x2 σ
   else (if x2 = (1 : Int32) then m_X11_person_96 N x1 x2 σ
   else (if x2 = (2 : Int32) then some (x3, σ)
   else (if x2 = (3 : Int32) then ((m_X11_held N x1 σ).bind fun q6 => some (q6.1, q6.2))
   else (if x2 = (4 : Int32) then ((m_X11_own N x1 σ).bind fun q8 => some (q8.1, q8.2))
   else some ((-1000000002 : Int32), σ))))))
   else (if g_in ((3 : Int32) + ((2 : Int32) * x1)) 39 then (if g_in ((5 : Int32) + x4) 45 then (if (σ.1 81 ((3 : Int32) + ((2 : Int32) * x1)).toNatClampNeg) < (σ.1 79 ((5 : Int32) + x4).toNatClampNeg) then m_X11_person_53 (m_X11_person_16 N fu) N x1 x2 x4 x3 (0 : Int32) σ
   else m_X11_person_53 (m_X11_person_16 N fu) N x1 x2 x4 x3 ((1 : Int32) <<< (x4 &&& 31)) σ) else none) else none))
def m_X11_person (N : Nat) (x1 : Int32) (x2 : Int32) (σ : g_St) : Option (Int32 × g_St) := ((m_X11_isPerson x1 σ).bind fun q1 => (if q1.1 = 0 then some ((-1000000001 : Int32), q1.2)
   else m_X11_person_16 N N x1 x2 (0 : Int32) (0 : Int32) q1.2))
/-! m_X11_ticket -/
def m_X11_ticket (x1 : Int32) (x2 : Int32) (σ : g_St) : Option (Int32 × g_St) := ((m_X11_isTicket x1 σ).bind fun q1 => (if q1.1 = 0 then some ((-1000000001 : Int32), q1.2)
   else (if x2 = (0 : Int32) then (if g_in ((15 : Int32) + ((3 : Int32) * x1)) 39 then some ((q1.2.1 81 ((15 : Int32) + ((3 : Int32) * x1)).toNatClampNeg), q1.2) else none)
   else (if x2 = (1 : Int32) then ((m_X11_weight x1 q1.2).bind fun q6 => some (q6.1, q6.2))
   else (if x2 = (2 : Int32) then (if g_in (((15 : Int32) + ((3 : Int32) * x1)) + (2 : Int32)) 39 then some ((q1.2.1 81 (((15 : Int32) + ((3 : Int32) * x1)) + (2 : Int32)).toNatClampNeg), q1.2) else none)
   else (if x2 = (3 : Int32) then (if g_in (((15 : Int32) + ((3 : Int32) * x1)) + (1 : Int32)) 39 then some ((q1.2.1 81 (((15 : Int32) + ((3 : Int32) * x1)) + (1 : Int32)).toNatClampNeg), q1.2) else none)
   else some ((-1000000002 : Int32), q1.2)))))))
/-! m_X11_right -/
def m_X11_right (x1 : Int32) (σ : g_St) : Option (Int32 × g_St) := ((m_X11_in (x1).toInt64 (0 : Int64) (3 : Int64) σ).bind fun q1 => (if q1.1 = 0 then some ((-1000000002 : Int32), q1.2)
   else (if g_in ((5 : Int32) + x1) 45 then some ((q1.2.1 79 ((5 : Int32) + x1).toNatClampNeg), q1.2) else none)))
/-! m_X11_notes -/
def m_X11_notes_48 (N : Nat) : Nat → Int32 → g_St → Option (g_St)
  | 0, _, _ => none
  | fu + 1, x1, σ => (if (39 : Int32) ≤ x1 then (g_lt (g_sI σ 77 9 ((σ.1 77 9) + (1 : Int32))) fun σ2 => some σ2)
   else (if g_in x1 39 then (if g_in (((39 : Int32) * (σ.1 77 9)) + x1) 1170 then (g_lt (g_sI σ 82 (((39 : Int32) * (σ.1 77 9)) + x1).toNatClampNeg (σ.1 81 x1.toNatClampNeg)) fun σ5 => (g_lt (x1 + (1 : Int32)) fun v6 => m_X11_notes_48 N fu v6 σ5)) else none) else none))
def m_X11_notes_46 (N : Nat) (σ : g_St) : Option (g_St) := m_X11_notes_48 N N (0 : Int32) σ
def m_X11_notes_12 (N : Nat) : Nat → Int32 → g_St → Option (g_St)
  | 0, _, _ => none
  | fu + 1, x1, σ => (if (1170 : Int32) ≤ x1 then (g_lt (g_sI σ 77 9 (29 : Int32)) fun σ2 => m_X11_notes_46 N σ2)
   else (if g_in x1 1170 then (if g_in (x1 - (39 : Int32)) 1170 then (g_lt (g_sI σ 82 (x1 - (39 : Int32)).toNatClampNeg (σ.1 82 x1.toNatClampNeg)) fun σ5 => (g_lt (x1 + (1 : Int32)) fun v6 => m_X11_notes_12 N fu v6 σ5)) else none) else none))
def m_X11_notes (N : Nat) (σ : g_St) : Option (g_St) := (if (σ.1 77 9) = (30 : Int32) then m_X11_notes_12 N N (39 : Int32) σ
   else m_X11_notes_46 N σ)
/-! m_X11_draws -/
def m_X11_draws_151 (σ : g_St) : Option (g_St) := ((m_X11_all σ).bind fun q1 => (g_lt (g_sI q1.2 81 2 q1.1) fun σ2 => (g_lt (g_sI σ2 81 0 ((σ2.1 81 0) + (1 : Int32))) fun σ3 => (g_lt (g_sI σ3 81 1 (0 : Int32)) fun σ4 => some σ4))))
def m_X11_draws_115 (s1 : Int32) (s2 : Int32) (s3 : Int32) (σ : g_St) : Option (g_St) := (if g_in s1 39 then (g_lt (g_sI σ 81 s1.toNatClampNeg (s2 &&& s3)) fun σ2 => (g_lt (g_sI σ2 81 1 ((σ2.1 81 1) + (1 : Int32))) fun σ3 => (if (σ3.1 81 1) = (σ3.1 79 2) then m_X11_draws_151 σ3
   else (if (σ3.1 81 2) = 0 then m_X11_draws_151 σ3
   else some σ3)))) else none)
def m_X11_draws_93 (x1 : Int32) (x2 : Int32) (s1 : Int32) (s2 : Int32) (σ : g_St) : Option (g_St) := (if g_in s1 39 then (g_lt (g_sI σ 81 s1.toNatClampNeg s2) fun σ2 => (if x2 = (1 : Int32) then m_X11_draws_115 (2 : Int32) (σ2.1 81 2) (-1 : Int32) σ2
   else m_X11_draws_115 (2 : Int32) (σ2.1 81 2) (((1 : Int32) <<< (x1 &&& 31)) ^^^ (-1 : Int32)) σ2)) else none)
def m_X11_draws_34 (x1 : Int32) (x2 : Int32) (x3 : Int32) (s1 : Int32) (s2 : Int32) (s3 : Int32) (σ : g_St) : Option (g_St) := (if g_in s1 39 then (g_lt (g_sI σ 81 s1.toNatClampNeg (s2 + s3)) fun σ2 => (g_lt (x3 + (1 : Int32)) fun v3 => (if g_in v3 39 then (if g_in x3 39 then (if g_in v3 39 then (g_lt (g_sI σ2 81 v3.toNatClampNeg ((σ2.1 81 v3.toNatClampNeg) + (((σ2.1 81 x3.toNatClampNeg) / (10 : Int32)) + (1 : Int32)))) fun σ7 => (if g_in (x3 + (1 : Int32)) 39 then (if (σ7.1 81 (x3 + (1 : Int32)).toNatClampNeg) ≤ (9999 : Int32) then (if g_in (x3 + (1 : Int32)) 39 then m_X11_draws_93 x1 x2 (x3 + (1 : Int32)) (σ7.1 81 (x3 + (1 : Int32)).toNatClampNeg) σ7 else none)
   else m_X11_draws_93 x1 x2 (x3 + (1 : Int32)) (9999 : Int32) σ7) else none)) else none) else none) else none))) else none)
def m_X11_draws (x1 : Int32) (x2 : Int32) (σ : g_St) : Option (g_St) := ((m_X11_who x1 σ).bind fun q1 => (g_lt ((3 : Int32) + ((2 : Int32) * q1.1)) fun v2 => (if g_in v2 39 then (if g_in v2 39 then (if (999 : Int32) ≤ (q1.2.1 81 v2.toNatClampNeg) then m_X11_draws_34 x1 x2 v2 v2 (q1.2.1 81 v2.toNatClampNeg) (0 : Int32) q1.2
   else m_X11_draws_34 x1 x2 v2 v2 (q1.2.1 81 v2.toNatClampNeg) (1 : Int32) q1.2) else none) else none)))
/-! m_X11_draw -/
def m_X11_draw (N : Nat) (x1 : Int32) (σ : g_St) : Option (Int32 × g_St) := ((m_X11_isTicket x1 σ).bind fun q1 => (if q1.1 = 0 then some ((-1000000001 : Int32), q1.2)
   else (if (((q1.2.1 81 2) >>> (x1 &&& 31)) &&& (1 : Int32)) = 0 then some ((-1000000003 : Int32), q1.2)
   else (if (q1.2.1 81 0) ≤ (90000 : Int32) then ((m_X11_notes N q1.2).bind fun σ5 => ((m_X11_draws x1 (σ5.1 79 3) σ5).bind fun σ6 => ((m_X11_who x1 σ6).bind fun q7 => some (q7.1, q7.2))))
   else some ((-1000000004 : Int32), q1.2)))))
/-! m_X11_lot -/
def m_X11_lot_89 (k43 : Int32 → Int32 → g_St → Option (Int32 × g_St)) (N : Nat) (x2 : Int32) (s0 : Int32) (s1 : Int32) (σ : g_St) : Option (Int32 × g_St) := (g_lt (s0 - s1) fun v1 => (g_lt (x2 + (1 : Int32)) fun v2 => k43 v1 v2 σ))
def m_X11_lot_65 (k43 : Int32 → Int32 → g_St → Option (Int32 × g_St)) (N : Nat) (x1 : Int32) (x2 : Int32) (σ : g_St) : Option (Int32 × g_St) := (if (((σ.1 81 2) >>> (x2 &&& 31)) &&& (1 : Int32)) = (1 : Int32) then ((m_X11_weight x2 σ).bind fun q2 => m_X11_lot_89 k43 N x2 x1 q2.1 q2.2)
   else m_X11_lot_89 k43 N x2 x1 (0 : Int32) σ)
def m_X11_lot_43 (N : Nat) : Nat → Int32 → Int32 → g_St → Option (Int32 × g_St)
  | 0, _, _, _ => none
  | fu + 1, x1, x2, σ => (if (((σ.1 81 2) >>> (x2 &&& 31)) &&& (1 : Int32)) = 0 then m_X11_lot_65 (m_X11_lot_43 N fu) N x1 x2 σ
   else ((m_X11_weight x2 σ).bind fun q2 => (if x1 < q2.1 then some (x2, q2.2)
   else m_X11_lot_65 (m_X11_lot_43 N fu) N x1 x2 q2.2)))
def m_X11_lot (N : Nat) (σ : g_St) : Option (Int32 × g_St) := (g_lt (g_sI σ 77 8 ((((((σ.1 77 8)).toInt64 * (1103515245 : Int64)) + (12345 : Int64)) - ((((σ.1 77 8)).toInt64 * (1103515245 : Int64)) + (12345 : Int64)) / (2147483648 : Int64) * (2147483648 : Int64))).toInt32) fun σ1 => ((m_X11_weightOf N (σ1.1 81 2) σ1).bind fun q2 => (if q2.1 = 0 then none else (g_lt (((σ1.1 77 8) / (65536 : Int32)) - ((σ1.1 77 8) / (65536 : Int32)) / q2.1 * q2.1) fun v4 => m_X11_lot_43 N N v4 (0 : Int32) q2.2))))
/-! m_X11_lots -/
def m_X11_lots_45 (N : Nat) : Nat → Int32 → Int32 → Int32 → g_St → Option (Int32 × g_St)
  | 0, _, _, _, _ => none
  | fu + 1, x1, x2, x3, σ => (if x1 ≤ x3 then some (x2, σ)
   else ((m_X11_notes N σ).bind fun σ2 => ((m_X11_lot N σ2).bind fun q3 => ((m_X11_draws q3.1 (q3.2.1 79 3) q3.2).bind fun σ4 => (g_lt (x3 + (1 : Int32)) fun v5 => m_X11_lots_45 N fu x1 q3.1 v5 σ4)))))
def m_X11_lots (N : Nat) (x1 : Int32) (σ : g_St) : Option (Int32 × g_St) := ((m_X11_in (x1).toInt64 (1 : Int64) (99 : Int64) σ).bind fun q1 => (if q1.1 = 0 then some ((-1000000002 : Int32), q1.2)
   else (if (q1.2.1 79 1) = 0 then some ((-1000000003 : Int32), q1.2)
   else (if (q1.2.1 81 0) ≤ (90000 : Int32) then m_X11_lots_45 N N x1 (-1 : Int32) (0 : Int32) q1.2
   else some ((-1000000004 : Int32), q1.2)))))
/-! m_X11_sell -/
def m_X11_sell_130 (x2 : Int32) (x3 : Int32) (x4 : Int32) (s1 : Int32) (s2 : Int32) (σ : g_St) : Option (Int32 × g_St) := (if g_in s1 39 then (g_lt (g_sI σ 81 s1.toNatClampNeg s2) fun σ2 => (g_lt (((3 : Int32) + ((2 : Int32) * x2)) + (1 : Int32)) fun v3 => (if g_in v3 39 then (if g_in v3 39 then (g_lt (g_sI σ2 81 v3.toNatClampNeg ((σ2.1 81 v3.toNatClampNeg) - x4)) fun σ6 => (if g_in x3 39 then (g_lt (g_sI σ6 81 x3.toNatClampNeg x2) fun σ8 => (if g_in (((3 : Int32) + ((2 : Int32) * x2)) + (1 : Int32)) 39 then some ((σ8.1 81 (((3 : Int32) + ((2 : Int32) * x2)) + (1 : Int32)).toNatClampNeg), σ8) else none)) else none)) else none) else none))) else none)
def m_X11_sell (x1 : Int32) (x2 : Int32) (σ : g_St) : Option (Int32 × g_St) := ((m_X11_isTicket x1 σ).bind fun q1 => (if q1.1 = 0 then some ((-1000000001 : Int32), q1.2)
   else ((m_X11_isPerson x2 q1.2).bind fun q3 => (if q3.1 = 0 then some ((-1000000001 : Int32), q3.2)
   else (g_lt ((15 : Int32) + ((3 : Int32) * x1)) fun v5 => (if g_in (v5 + (2 : Int32)) 39 then (g_lt (q3.2.1 81 (v5 + (2 : Int32)).toNatClampNeg) fun v7 => (if g_in v5 39 then (if (q3.2.1 81 v5.toNatClampNeg) = x2 then some ((-1000000003 : Int32), q3.2)
   else (if g_in (v5 + (1 : Int32)) 39 then (if (q3.2.1 81 (v5 + (1 : Int32)).toNatClampNeg) = (-1 : Int32) then (if g_in (((3 : Int32) + ((2 : Int32) * x2)) + (1 : Int32)) 39 then (if v7 ≤ (q3.2.1 81 (((3 : Int32) + ((2 : Int32) * x2)) + (1 : Int32)).toNatClampNeg) then (if g_in v5 39 then (g_lt (((3 : Int32) + ((2 : Int32) * (q3.2.1 81 v5.toNatClampNeg))) + (1 : Int32)) fun v15 => (if g_in v15 39 then (if ((q3.2.1 81 v15.toNatClampNeg) + v7) ≤ (9999 : Int32) then (if g_in v15 39 then m_X11_sell_130 x2 v5 v7 v15 ((q3.2.1 81 v15.toNatClampNeg) + v7) q3.2 else none)
   else m_X11_sell_130 x2 v5 v7 v15 (9999 : Int32) q3.2) else none)) else none)
   else some ((-1000000003 : Int32), q3.2)) else none)
   else some ((-1000000003 : Int32), q3.2)) else none)) else none)) else none))))))
/-! m_X11_pawn -/
def m_X11_pawn_24 (x1 : Int32) (x2 : Int32) (σ : g_St) : Option (Int32 × g_St) := (if g_in (((15 : Int32) + ((3 : Int32) * x1)) + (1 : Int32)) 39 then (g_lt (σ.1 81 (((15 : Int32) + ((3 : Int32) * x1)) + (1 : Int32)).toNatClampNeg) fun v2 => (if g_in (((15 : Int32) + ((3 : Int32) * x1)) + (1 : Int32)) 39 then (g_lt (g_sI σ 81 (((15 : Int32) + ((3 : Int32) * x1)) + (1 : Int32)).toNatClampNeg x2) fun σ4 => some (v2, σ4)) else none)) else none)
def m_X11_pawn (x1 : Int32) (x2 : Int32) (σ : g_St) : Option (Int32 × g_St) := ((m_X11_isTicket x1 σ).bind fun q1 => (if q1.1 = 0 then some ((-1000000001 : Int32), q1.2)
   else (if x2 = (-1 : Int32) then m_X11_pawn_24 x1 x2 q1.2
   else ((m_X11_isPerson x2 q1.2).bind fun q4 => (if q4.1 = 0 then some ((-1000000001 : Int32), q4.2)
   else m_X11_pawn_24 x1 x2 q4.2)))))
/-! m_X11_price -/
def m_X11_price (x1 : Int32) (x2 : Int32) (σ : g_St) : Option (Int32 × g_St) := ((m_X11_isTicket x1 σ).bind fun q1 => (if q1.1 = 0 then some ((-1000000001 : Int32), q1.2)
   else ((m_X11_in (x2).toInt64 (0 : Int64) (99 : Int64) q1.2).bind fun q3 => (if q3.1 = 0 then some ((-1000000002 : Int32), q3.2)
   else (if g_in (((15 : Int32) + ((3 : Int32) * x1)) + (2 : Int32)) 39 then (g_lt (q3.2.1 81 (((15 : Int32) + ((3 : Int32) * x1)) + (2 : Int32)).toNatClampNeg) fun v6 => (if g_in (((15 : Int32) + ((3 : Int32) * x1)) + (2 : Int32)) 39 then (g_lt (g_sI q3.2 81 (((15 : Int32) + ((3 : Int32) * x1)) + (2 : Int32)).toNatClampNeg x2) fun σ8 => some (v6, σ8)) else none)) else none)))))
/-! m_X11_undo -/
def m_X11_undo_38 (N : Nat) : Nat → Int32 → g_St → Option (Int32 × g_St)
  | 0, _, _ => none
  | fu + 1, x2, σ => (if (39 : Int32) ≤ x2 then some ((σ.1 81 0), σ)
   else (if g_in (((39 : Int32) * (σ.1 77 9)) + x2) 1170 then (if g_in x2 39 then (g_lt (g_sI σ 81 x2.toNatClampNeg (σ.1 82 (((39 : Int32) * (σ.1 77 9)) + x2).toNatClampNeg)) fun σ4 => (g_lt (x2 + (1 : Int32)) fun v5 => m_X11_undo_38 N fu v5 σ4)) else none) else none))
def m_X11_undo (N : Nat) (x1 : Int32) (σ : g_St) : Option (Int32 × g_St) := ((m_X11_in (x1).toInt64 (1 : Int64) (30 : Int64) σ).bind fun q1 => (if q1.1 = 0 then some ((-1000000002 : Int32), q1.2)
   else (if x1 ≤ (q1.2.1 77 9) then (g_lt (g_sI q1.2 77 9 ((q1.2.1 77 9) - x1)) fun σ4 => m_X11_undo_38 N N (0 : Int32) σ4)
   else some ((-1000000003 : Int32), q1.2))))
/-! m_X11_many -/
def m_X11_many_4 (N : Nat) : Nat → Int32 → Int32 → g_St → Option (Int32 × g_St)
  | 0, _, _, _ => none
  | fu + 1, x1, x2, σ => (if x2 = 0 then some (x1, σ)
   else (g_lt (x1 + (1 : Int32)) fun v2 => (g_lt (x2 &&& (x2 - (1 : Int32))) fun v3 => m_X11_many_4 N fu v2 v3 σ)))
def m_X11_many (N : Nat) (x0 : Int32) (σ : g_St) : Option (Int32 × g_St) := m_X11_many_4 N N (0 : Int32) x0 σ
/-! m_X11_oddsWith -/
def m_X11_oddsWith_139 (N : Nat) : Nat → Int32 → Int32 → g_St → Option (Int32 × g_St)
  | 0, _, _, _ => none
  | fu + 1, x6, x7, σ => (if (10 : Int32) ≤ x7 then some (x6, σ)
   else (if g_in x7 10 then (g_lt (x6 + (σ.1 83 x7.toNatClampNeg)) fun v3 => (g_lt (x7 + (1 : Int32)) fun v4 => m_X11_oddsWith_139 N fu v3 v4 σ)) else none))
def m_X11_oddsWith_133 (N : Nat) (x2 : Int32) (σ : g_St) : Option (Int32 × g_St) := m_X11_oddsWith_139 N N (0 : Int32) x2 σ
def m_X11_oddsWith_69 (k54 : Int32 → Int32 → Int32 → Int32 → Int32 → g_St → Option (Int32 × g_St)) (N : Nat) : Nat → Int32 → Int32 → Int32 → Int32 → Int32 → Int32 → g_St → Option (Int32 × g_St)
  | 0, _, _, _, _, _, _, _ => none
  | fu + 1, x2, x3, x4, x5, x6, x7, σ => (if x7 < 0 then (g_lt (x6 + (1 : Int32)) fun v2 => k54 x2 x3 x4 x5 v2 σ)
   else (if g_in x7 10 then (if (x5).toInt64 = 0 then none else (g_lt (((((1 : Int64) * ((σ.1 83 x7.toNatClampNeg)).toInt64) * (x4).toInt64) / (x5).toInt64)).toInt32 fun v5 => (if g_in x7 10 then (if g_in x7 10 then (g_lt (g_sI σ 83 x7.toNatClampNeg ((σ.1 83 x7.toNatClampNeg) - v5)) fun σ8 => (g_lt (x7 + (1 : Int32)) fun v9 => (if g_in v9 10 then (if g_in v9 10 then (g_lt (g_sI σ8 83 v9.toNatClampNeg ((σ8.1 83 v9.toNatClampNeg) + v5)) fun σ12 => (g_lt (x7 + (-1 : Int32)) fun v13 => m_X11_oddsWith_69 k54 N fu x2 x3 x4 x5 x6 v13 σ12)) else none) else none))) else none) else none))) else none))
def m_X11_oddsWith_54 (N : Nat) : Nat → Int32 → Int32 → Int32 → Int32 → Int32 → g_St → Option (Int32 × g_St)
  | 0, _, _, _, _, _, _ => none
  | fu + 1, x2, x3, x4, x5, x6, σ => (if x3 ≤ x6 then m_X11_oddsWith_133 N x2 σ
   else (if x5 ≤ 0 then m_X11_oddsWith_133 N x2 σ
   else m_X11_oddsWith_69 (m_X11_oddsWith_54 N fu) N N x2 x3 x4 x5 x6 x6 σ))
def m_X11_oddsWith_27 (k3 : Int32 → Int32 → Int32 → Int32 → g_St → Option (Int32 × g_St)) (N : Nat) (x1 : Int32) (x2 : Int32) (x3 : Int32) (x4 : Int32) (s1 : Int32) (s2 : Int32) (σ : g_St) : Option (Int32 × g_St) := (if g_in s1 10 then (g_lt (g_sI σ 83 s1.toNatClampNeg s2) fun σ2 => (g_lt (x4 + (1 : Int32)) fun v3 => k3 x1 x2 x3 v3 σ2)) else none)
def m_X11_oddsWith_3 (N : Nat) : Nat → Int32 → Int32 → Int32 → Int32 → g_St → Option (Int32 × g_St)
  | 0, _, _, _, _, _ => none
  | fu + 1, x1, x2, x3, x4, σ => (if (10 : Int32) ≤ x4 then ((m_X11_weightOf N x1 σ).bind fun q2 => ((m_X11_all q2.2).bind fun q3 => ((m_X11_weightOf N q3.1 q3.2).bind fun q4 => m_X11_oddsWith_54 N N x2 x3 q2.1 q4.1 (0 : Int32) q4.2)))
   else (if x4 = 0 then m_X11_oddsWith_27 (m_X11_oddsWith_3 N fu) N x1 x2 x3 x4 x4 (1000000000 : Int32) σ
   else m_X11_oddsWith_27 (m_X11_oddsWith_3 N fu) N x1 x2 x3 x4 x4 (0 : Int32) σ))
def m_X11_oddsWith (N : Nat) (x1 : Int32) (x2 : Int32) (x3 : Int32) (σ : g_St) : Option (Int32 × g_St) := m_X11_oddsWith_3 N N x1 x2 x3 (0 : Int32) σ
/-! m_X11_oddsWithout -/
def m_X11_oddsWithout_281 (k239 : Int32 → Int32 → Int32 → Int32 → Int32 → g_St → Option (Int32 × g_St)) (N : Nat) (x1 : Int32) (x2 : Int32) (x4 : Int32) (x6 : Int32) (s0 : Int32) (s1 : Int32) (σ : g_St) : Option (Int32 × g_St) := (g_lt (s0 + s1) fun v1 => (g_lt (x6 + (1 : Int32)) fun v2 => k239 x1 x2 x4 v1 v2 σ))
def m_X11_oddsWithout_239 (N : Nat) : Nat → Int32 → Int32 → Int32 → Int32 → Int32 → g_St → Option (Int32 × g_St)
  | 0, _, _, _, _, _, _ => none
  | fu + 1, x1, x2, x4, x5, x6, σ => (if ((1 : Int32) <<< ((σ.1 79 1) &&& 31)) ≤ x6 then some (x5, σ)
   else ((m_X11_many N ((x4 &&& x1) &&& (x6 ^^^ (-1 : Int32))) σ).bind fun q2 => (if q2.1 < x2 then m_X11_oddsWithout_281 (m_X11_oddsWithout_239 N fu) N x1 x2 x4 x6 x5 (0 : Int32) q2.2
   else (if g_in x6 256 then m_X11_oddsWithout_281 (m_X11_oddsWithout_239 N fu) N x1 x2 x4 x6 x5 (q2.2.1 84 x6.toNatClampNeg) q2.2 else none))))
def m_X11_oddsWithout_199 (k40 : Int32 → Int32 → Int32 → Int32 → Int32 → g_St → Option (Int32 × g_St)) (N : Nat) : Nat → Int32 → Int32 → Int32 → Int32 → Int32 → Int32 → g_St → Option (Int32 × g_St)
  | 0, _, _, _, _, _, _, _ => none
  | fu + 1, x1, x2, x3, x4, x5, x6, σ => (if (256 : Int32) ≤ x6 then (g_lt (x5 + (1 : Int32)) fun v2 => k40 x1 x2 x3 x4 v2 σ)
   else (if g_in x6 256 then (if g_in x6 256 then (g_lt (g_sI σ 84 x6.toNatClampNeg (σ.1 85 x6.toNatClampNeg)) fun σ5 => (g_lt (x6 + (1 : Int32)) fun v6 => m_X11_oddsWithout_199 k40 N fu x1 x2 x3 x4 x5 v6 σ5)) else none) else none))
def m_X11_oddsWithout_190 (k40 : Int32 → Int32 → Int32 → Int32 → Int32 → g_St → Option (Int32 × g_St)) (k88 : Int32 → Int32 → Int32 → Int32 → Int32 → Int32 → g_St → Option (Int32 × g_St)) (N : Nat) (x1 : Int32) (x2 : Int32) (x3 : Int32) (x4 : Int32) (x5 : Int32) (x6 : Int32) (σ : g_St) : Option (Int32 × g_St) := (g_lt (x6 + (1 : Int32)) fun v1 => k88 x1 x2 x3 x4 x5 v1 σ)
def m_X11_oddsWithout_184 (k40 : Int32 → Int32 → Int32 → Int32 → Int32 → g_St → Option (Int32 × g_St)) (k88 : Int32 → Int32 → Int32 → Int32 → Int32 → Int32 → g_St → Option (Int32 × g_St)) (k112 : Int32 → Int32 → Int32 → Int32 → Int32 → Int32 → Int32 → Int32 → g_St → Option (Int32 × g_St)) (N : Nat) (x1 : Int32) (x2 : Int32) (x3 : Int32) (x4 : Int32) (x5 : Int32) (x6 : Int32) (x7 : Int32) (x8 : Int32) (σ : g_St) : Option (Int32 × g_St) := (g_lt (x8 + (1 : Int32)) fun v1 => k112 x1 x2 x3 x4 x5 x6 x7 v1 σ)
def m_X11_oddsWithout_112 (k40 : Int32 → Int32 → Int32 → Int32 → Int32 → g_St → Option (Int32 × g_St)) (k88 : Int32 → Int32 → Int32 → Int32 → Int32 → Int32 → g_St → Option (Int32 × g_St)) (N : Nat) : Nat → Int32 → Int32 → Int32 → Int32 → Int32 → Int32 → Int32 → Int32 → g_St → Option (Int32 × g_St)
  | 0, _, _, _, _, _, _, _, _, _ => none
  | fu + 1, x1, x2, x3, x4, x5, x6, x7, x8, σ => (if (σ.1 79 1) ≤ x8 then m_X11_oddsWithout_190 k40 k88 N x1 x2 x3 x4 x5 x6 σ
   else (if g_in x6 256 then (if (σ.1 84 x6.toNatClampNeg) ≤ 0 then m_X11_oddsWithout_190 k40 k88 N x1 x2 x3 x4 x5 x6 σ
   else (if ((x6 >>> (x8 &&& 31)) &&& (1 : Int32)) = (1 : Int32) then (g_lt (x6 &&& (((1 : Int32) <<< (x8 &&& 31)) ^^^ (-1 : Int32))) fun v5 => (if g_in v5 256 then (if g_in x6 256 then ((m_X11_weight x8 σ).bind fun q8 => (if (x7).toInt64 = 0 then none else (if g_in v5 256 then (g_lt (g_sI q8.2 85 v5.toNatClampNeg ((σ.1 85 v5.toNatClampNeg) + (((((1 : Int64) * ((σ.1 84 x6.toNatClampNeg)).toInt64) * (q8.1).toInt64) / (x7).toInt64)).toInt32)) fun σ11 => m_X11_oddsWithout_184 k40 k88 (m_X11_oddsWithout_112 k40 k88 N fu) N x1 x2 x3 x4 x5 x6 x7 x8 σ11) else none))) else none) else none))
   else m_X11_oddsWithout_184 k40 k88 (m_X11_oddsWithout_112 k40 k88 N fu) N x1 x2 x3 x4 x5 x6 x7 x8 σ)) else none))
def m_X11_oddsWithout_88 (k40 : Int32 → Int32 → Int32 → Int32 → Int32 → g_St → Option (Int32 × g_St)) (N : Nat) : Nat → Int32 → Int32 → Int32 → Int32 → Int32 → Int32 → g_St → Option (Int32 × g_St)
  | 0, _, _, _, _, _, _, _ => none
  | fu + 1, x1, x2, x3, x4, x5, x6, σ => (if ((1 : Int32) <<< ((σ.1 79 1) &&& 31)) ≤ x6 then m_X11_oddsWithout_199 k40 N N x1 x2 x3 x4 x5 (0 : Int32) σ
   else ((m_X11_weightOf N x6 σ).bind fun q2 => m_X11_oddsWithout_112 k40 (m_X11_oddsWithout_88 k40 N fu) N N x1 x2 x3 x4 x5 x6 q2.1 (0 : Int32) q2.2))
def m_X11_oddsWithout_78 (k40 : Int32 → Int32 → Int32 → Int32 → Int32 → g_St → Option (Int32 × g_St)) (k49 : Int32 → Int32 → Int32 → Int32 → Int32 → Int32 → g_St → Option (Int32 × g_St)) (N : Nat) (x1 : Int32) (x2 : Int32) (x3 : Int32) (x4 : Int32) (x5 : Int32) (x6 : Int32) (s1 : Int32) (s2 : Int32) (σ : g_St) : Option (Int32 × g_St) := (if g_in s1 256 then (g_lt (g_sI σ 85 s1.toNatClampNeg s2) fun σ2 => (g_lt (x6 + (1 : Int32)) fun v3 => k49 x1 x2 x3 x4 x5 v3 σ2)) else none)
def m_X11_oddsWithout_49 (k40 : Int32 → Int32 → Int32 → Int32 → Int32 → g_St → Option (Int32 × g_St)) (N : Nat) : Nat → Int32 → Int32 → Int32 → Int32 → Int32 → Int32 → g_St → Option (Int32 × g_St)
  | 0, _, _, _, _, _, _, _ => none
  | fu + 1, x1, x2, x3, x4, x5, x6, σ => (if (256 : Int32) ≤ x6 then m_X11_oddsWithout_88 k40 N N x1 x2 x3 x4 x5 (1 : Int32) σ
   else (if x6 = 0 then m_X11_oddsWithout_78 k40 (m_X11_oddsWithout_49 k40 N fu) N x1 x2 x3 x4 x5 x6 x6 (σ.1 84 0) σ
   else m_X11_oddsWithout_78 k40 (m_X11_oddsWithout_49 k40 N fu) N x1 x2 x3 x4 x5 x6 x6 (0 : Int32) σ))
def m_X11_oddsWithout_40 (N : Nat) : Nat → Int32 → Int32 → Int32 → Int32 → Int32 → g_St → Option (Int32 × g_St)
  | 0, _, _, _, _, _, _ => none
  | fu + 1, x1, x2, x3, x4, x5, σ => (if x3 ≤ x5 then m_X11_oddsWithout_239 N N x1 x2 x4 (0 : Int32) (0 : Int32) σ
   else m_X11_oddsWithout_49 (m_X11_oddsWithout_40 N fu) N N x1 x2 x3 x4 x5 (0 : Int32) σ)
def m_X11_oddsWithout_30 (k3 : Int32 → Int32 → Int32 → Int32 → Int32 → g_St → Option (Int32 × g_St)) (N : Nat) (x1 : Int32) (x2 : Int32) (x3 : Int32) (x4 : Int32) (x5 : Int32) (s1 : Int32) (s2 : Int32) (σ : g_St) : Option (Int32 × g_St) := (if g_in s1 256 then (g_lt (g_sI σ 84 s1.toNatClampNeg s2) fun σ2 => (g_lt (x5 + (1 : Int32)) fun v3 => k3 x1 x2 x3 x4 v3 σ2)) else none)
def m_X11_oddsWithout_3 (N : Nat) : Nat → Int32 → Int32 → Int32 → Int32 → Int32 → g_St → Option (Int32 × g_St)
  | 0, _, _, _, _, _, _ => none
  | fu + 1, x1, x2, x3, x4, x5, σ => (if (256 : Int32) ≤ x5 then m_X11_oddsWithout_40 N N x1 x2 x3 x4 (0 : Int32) σ
   else (if x5 = x4 then m_X11_oddsWithout_30 (m_X11_oddsWithout_3 N fu) N x1 x2 x3 x4 x5 x5 (1000000000 : Int32) σ
   else m_X11_oddsWithout_30 (m_X11_oddsWithout_3 N fu) N x1 x2 x3 x4 x5 x5 (0 : Int32) σ))
def m_X11_oddsWithout (N : Nat) (x1 : Int32) (x2 : Int32) (x3 : Int32) (x4 : Int32) (σ : g_St) : Option (Int32 × g_St) := m_X11_oddsWithout_3 N N x1 x2 x3 x4 (0 : Int32) σ
/-! m_X11_oddsOf -/
def m_X11_oddsOf (N : Nat) (x1 : Int32) (x2 : Int32) (x3 : Int32) (x4 : Int32) (σ : g_St) : Option (Int32 × g_St) := (if (σ.1 79 3) = (1 : Int32) then ((m_X11_oddsWith N x1 x2 x3 σ).bind fun q3 => some (q3.1, q3.2))
   else ((m_X11_oddsWithout N x1 x2 x3 x4 σ).bind fun q2 => some (q2.1, q2.2)))
/-! m_X11_rest -/
def m_X11_rest (σ : g_St) : Option (Int32 × g_St) := some (((σ.1 79 2) - (σ.1 81 1)), σ)
/-! m_X11_odds -/
def m_X11_odds (N : Nat) (x1 : Int32) (x2 : Int32) (σ : g_St) : Option (Int32 × g_St) := ((m_X11_isPerson x1 σ).bind fun q1 => (if q1.1 = 0 then some ((-1000000001 : Int32), q1.2)
   else ((m_X11_in (x2).toInt64 (0 : Int64) (8 : Int64) q1.2).bind fun q3 => (if q3.1 = 0 then some ((-1000000002 : Int32), q3.2)
   else ((m_X11_own N x1 q3.2).bind fun q5 => ((m_X11_rest q5.2).bind fun q6 => ((m_X11_oddsOf N q5.1 x2 q6.1 (q6.2.1 81 2) q6.2).bind fun q7 => some (q7.1, q7.2))))))))
/-! m_X11_never -/
def m_X11_never_59 (N : Nat) : Nat → Int32 → Int64 → Int64 → Int32 → g_St → Option (Int32 × g_St)
  | 0, _, _, _, _, _ => none
  | fu + 1, x2, x3, x5, x7, σ => (if x2 ≤ x7 then some ((x5).toInt32, σ)
   else (g_lt ((x5 * x3) / (1000000000 : Int64)) fun v2 => (g_lt (x7 + (1 : Int32)) fun v3 => m_X11_never_59 N fu x2 x3 v2 v3 σ)))
def m_X11_never (N : Nat) (x1 : Int32) (x2 : Int32) (σ : g_St) : Option (Int32 × g_St) := ((m_X11_isPerson x1 σ).bind fun q1 => (if q1.1 = 0 then some ((-1000000001 : Int32), q1.2)
   else ((m_X11_in (x2).toInt64 (1 : Int64) (99 : Int64) q1.2).bind fun q3 => (if q3.1 = 0 then some ((-1000000002 : Int32), q3.2)
   else ((m_X11_own N x1 q3.2).bind fun q5 => ((m_X11_all q5.2).bind fun q6 => ((m_X11_oddsOf N q5.1 (1 : Int32) (q5.2.1 79 2) q6.1 q6.2).bind fun q7 => (g_lt (((1000000000 : Int32) - q7.1)).toInt64 fun v8 => m_X11_never_59 N N x2 v8 (1000000000 : Int64) (0 : Int32) q7.2))))))))
/-! m_X11_buy -/
def m_X11_buy_324 (k79 : Int32 → Int32 → Int32 → Int32 → Int32 → Int32 → Int32 → g_St → Option (Int32 × g_St)) (N : Nat) (x1 : Int32) (x3 : Int32) (x4 : Int32) (x5 : Int32) (x6 : Int32) (x7 : Int32) (x8 : Int32) (σ : g_St) : Option (Int32 × g_St) := (g_lt (x8 + (1 : Int32)) fun v1 => k79 x1 x3 x4 x5 x6 x7 v1 σ)
def m_X11_buy_316 (k79 : Int32 → Int32 → Int32 → Int32 → Int32 → Int32 → Int32 → g_St → Option (Int32 × g_St)) (N : Nat) (x1 : Int32) (x3 : Int32) (x4 : Int32) (x5 : Int32) (x8 : Int32) (x9 : Int32) (σ : g_St) : Option (Int32 × g_St) := m_X11_buy_324 k79 N x1 x3 x4 x5 x8 x9 x8 σ
def m_X11_buy_309 (k79 : Int32 → Int32 → Int32 → Int32 → Int32 → Int32 → Int32 → g_St → Option (Int32 × g_St)) (N : Nat) (x1 : Int32) (x3 : Int32) (x4 : Int32) (x5 : Int32) (x6 : Int32) (x7 : Int32) (x8 : Int32) (x9 : Int32) (s0 : Int32) (σ : g_St) : Option (Int32 × g_St) := (if s0 < ((10000000 : Int32) * x3) then m_X11_buy_324 k79 N x1 x3 x4 x5 x6 x7 x8 σ
   else m_X11_buy_316 k79 N x1 x3 x4 x5 x8 x9 σ)
def m_X11_buy_257 (k79 : Int32 → Int32 → Int32 → Int32 → Int32 → Int32 → Int32 → g_St → Option (Int32 × g_St)) (N : Nat) (x1 : Int32) (x3 : Int32) (x4 : Int32) (x5 : Int32) (x6 : Int32) (x7 : Int32) (x8 : Int32) (x9 : Int32) (x10 : Int32) (s0 : Int32) (σ : g_St) : Option (Int32 × g_St) := (if x10 = 0 then m_X11_buy_324 k79 N x1 x3 x4 x5 x6 x7 x8 σ
   else (if s0 = 0 then m_X11_buy_324 k79 N x1 x3 x4 x5 x6 x7 x8 σ
   else (if x5 ≤ 0 then m_X11_buy_316 k79 N x1 x3 x4 x5 x8 x9 σ
   else (if x5 ≤ (8 : Int32) then ((m_X11_own N x1 σ).bind fun q5 => ((m_X11_rest q5.2).bind fun q6 => ((m_X11_oddsOf N (q5.1 ||| x8) x5 q6.1 (q6.2.1 81 2) q6.2).bind fun q7 => m_X11_buy_309 k79 N x1 x3 x4 x5 x6 x7 x8 x9 q7.1 q7.2)))
   else m_X11_buy_309 k79 N x1 x3 x4 x5 x6 x7 x8 x9 (0 : Int32) σ))))
def m_X11_buy_252 (k79 : Int32 → Int32 → Int32 → Int32 → Int32 → Int32 → Int32 → g_St → Option (Int32 × g_St)) (N : Nat) (x1 : Int32) (x3 : Int32) (x4 : Int32) (x5 : Int32) (x6 : Int32) (x7 : Int32) (x8 : Int32) (x9 : Int32) (x10 : Int32) (σ : g_St) : Option (Int32 × g_St) := m_X11_buy_257 k79 N x1 x3 x4 x5 x6 x7 x8 x9 x10 (1 : Int32) σ
def m_X11_buy_256 (k79 : Int32 → Int32 → Int32 → Int32 → Int32 → Int32 → Int32 → g_St → Option (Int32 × g_St)) (N : Nat) (x1 : Int32) (x3 : Int32) (x4 : Int32) (x5 : Int32) (x6 : Int32) (x7 : Int32) (x8 : Int32) (x9 : Int32) (x10 : Int32) (σ : g_St) : Option (Int32 × g_St) := m_X11_buy_257 k79 N x1 x3 x4 x5 x6 x7 x8 x9 x10 (0 : Int32) σ
def m_X11_buy_217 (k79 : Int32 → Int32 → Int32 → Int32 → Int32 → Int32 → Int32 → g_St → Option (Int32 × g_St)) (N : Nat) (x1 : Int32) (x3 : Int32) (x4 : Int32) (x5 : Int32) (x6 : Int32) (x7 : Int32) (x8 : Int32) (x9 : Int32) (s0 : Int32) (σ : g_St) : Option (Int32 × g_St) := (if x6 = (-1 : Int32) then m_X11_buy_252 k79 N x1 x3 x4 x5 x6 x7 x8 x9 s0 σ
   else (if x9 < x7 then m_X11_buy_252 k79 N x1 x3 x4 x5 x6 x7 x8 x9 s0 σ
   else (if x9 = x7 then ((m_X11_many N x8 σ).bind fun q4 => ((m_X11_many N x6 q4.2).bind fun q5 => (if q5.1 ≤ q4.1 then m_X11_buy_256 k79 N x1 x3 x4 x5 x6 x7 x8 x9 s0 q5.2
   else m_X11_buy_252 k79 N x1 x3 x4 x5 x6 x7 x8 x9 s0 q5.2)))
   else m_X11_buy_256 k79 N x1 x3 x4 x5 x6 x7 x8 x9 s0 σ)))
def m_X11_buy_216 (k79 : Int32 → Int32 → Int32 → Int32 → Int32 → Int32 → Int32 → g_St → Option (Int32 × g_St)) (N : Nat) (x1 : Int32) (x3 : Int32) (x4 : Int32) (x5 : Int32) (x6 : Int32) (x7 : Int32) (x8 : Int32) (x9 : Int32) (σ : g_St) : Option (Int32 × g_St) := m_X11_buy_217 k79 N x1 x3 x4 x5 x6 x7 x8 x9 (0 : Int32) σ
def m_X11_buy_184 (k79 : Int32 → Int32 → Int32 → Int32 → Int32 → Int32 → Int32 → g_St → Option (Int32 × g_St)) (k97 : Int32 → Int32 → Int32 → Int32 → Int32 → Int32 → Int32 → Int32 → Int32 → Int32 → g_St → Option (Int32 × g_St)) (N : Nat) (x1 : Int32) (x3 : Int32) (x4 : Int32) (x5 : Int32) (x6 : Int32) (x7 : Int32) (x8 : Int32) (x9 : Int32) (x10 : Int32) (x11 : Int32) (σ : g_St) : Option (Int32 × g_St) := (g_lt (x11 + (1 : Int32)) fun v1 => k97 x1 x3 x4 x5 x6 x7 x8 x9 x10 v1 σ)
def m_X11_buy_182 (k79 : Int32 → Int32 → Int32 → Int32 → Int32 → Int32 → Int32 → g_St → Option (Int32 × g_St)) (k97 : Int32 → Int32 → Int32 → Int32 → Int32 → Int32 → Int32 → Int32 → Int32 → Int32 → g_St → Option (Int32 × g_St)) (N : Nat) (x1 : Int32) (x3 : Int32) (x4 : Int32) (x5 : Int32) (x6 : Int32) (x7 : Int32) (x8 : Int32) (x9 : Int32) (x11 : Int32) (s0 : Int32) (σ : g_St) : Option (Int32 × g_St) := m_X11_buy_184 k79 k97 N x1 x3 x4 x5 x6 x7 x8 x9 s0 x11 σ
def m_X11_buy_181 (k79 : Int32 → Int32 → Int32 → Int32 → Int32 → Int32 → Int32 → g_St → Option (Int32 × g_St)) (k97 : Int32 → Int32 → Int32 → Int32 → Int32 → Int32 → Int32 → Int32 → Int32 → Int32 → g_St → Option (Int32 × g_St)) (N : Nat) (x1 : Int32) (x3 : Int32) (x4 : Int32) (x5 : Int32) (x6 : Int32) (x7 : Int32) (x8 : Int32) (x9 : Int32) (x11 : Int32) (σ : g_St) : Option (Int32 × g_St) := m_X11_buy_182 k79 k97 N x1 x3 x4 x5 x6 x7 x8 x9 x11 (0 : Int32) σ
def m_X11_buy_97 (k79 : Int32 → Int32 → Int32 → Int32 → Int32 → Int32 → Int32 → g_St → Option (Int32 × g_St)) (N : Nat) : Nat → Int32 → Int32 → Int32 → Int32 → Int32 → Int32 → Int32 → Int32 → Int32 → Int32 → g_St → Option (Int32 × g_St)
  | 0, _, _, _, _, _, _, _, _, _, _, _ => none
  | fu + 1, x1, x3, x4, x5, x6, x7, x8, x9, x10, x11, σ => (if (σ.1 79 1) ≤ x11 then (if x10 = 0 then m_X11_buy_216 k79 N x1 x3 x4 x5 x6 x7 x8 x9 σ
   else (if g_in (((3 : Int32) + ((2 : Int32) * x1)) + (1 : Int32)) 39 then (if (σ.1 81 (((3 : Int32) + ((2 : Int32) * x1)) + (1 : Int32)).toNatClampNeg) < x9 then m_X11_buy_216 k79 N x1 x3 x4 x5 x6 x7 x8 x9 σ
   else m_X11_buy_217 k79 N x1 x3 x4 x5 x6 x7 x8 x9 (1 : Int32) σ) else none))
   else (if ((x8 >>> (x11 &&& 31)) &&& (1 : Int32)) = (1 : Int32) then (if g_in (((15 : Int32) + ((3 : Int32) * x11)) + (2 : Int32)) 39 then (g_lt (x9 + (σ.1 81 (((15 : Int32) + ((3 : Int32) * x11)) + (2 : Int32)).toNatClampNeg)) fun v7 => (if x10 = 0 then m_X11_buy_181 k79 (m_X11_buy_97 k79 N fu) N x1 x3 x4 x5 x6 x7 x8 v7 x11 σ
   else (if g_in ((15 : Int32) + ((3 : Int32) * x11)) 39 then (if (σ.1 81 ((15 : Int32) + ((3 : Int32) * x11)).toNatClampNeg) = x1 then m_X11_buy_181 k79 (m_X11_buy_97 k79 N fu) N x1 x3 x4 x5 x6 x7 x8 v7 x11 σ
   else (if g_in (((15 : Int32) + ((3 : Int32) * x11)) + (1 : Int32)) 39 then (if (σ.1 81 (((15 : Int32) + ((3 : Int32) * x11)) + (1 : Int32)).toNatClampNeg) = (-1 : Int32) then m_X11_buy_182 k79 (m_X11_buy_97 k79 N fu) N x1 x3 x4 x5 x6 x7 x8 v7 x11 (1 : Int32) σ
   else m_X11_buy_181 k79 (m_X11_buy_97 k79 N fu) N x1 x3 x4 x5 x6 x7 x8 v7 x11 σ) else none)) else none))) else none)
   else m_X11_buy_184 k79 (m_X11_buy_97 k79 N fu) N x1 x3 x4 x5 x6 x7 x8 x9 x10 x11 σ))
def m_X11_buy_79 (N : Nat) : Nat → Int32 → Int32 → Int32 → Int32 → Int32 → Int32 → Int32 → g_St → Option (Int32 × g_St)
  | 0, _, _, _, _, _, _, _, _ => none
  | fu + 1, x1, x3, x4, x5, x6, x7, x8, σ => ((m_X11_all σ).bind fun q1 => (if q1.1 < x8 then (if x6 = (-1 : Int32) then some ((-1 : Int32), q1.2)
   else (if x4 = 0 then some (x7, q1.2)
   else some (x6, q1.2)))
   else m_X11_buy_97 (m_X11_buy_79 N fu) N N x1 x3 x4 x5 x6 x7 x8 (0 : Int32) (1 : Int32) (0 : Int32) q1.2))
def m_X11_buy (N : Nat) (x1 : Int32) (x2 : Int32) (x3 : Int32) (x4 : Int32) (σ : g_St) : Option (Int32 × g_St) := ((m_X11_isPerson x1 σ).bind fun q1 => (if q1.1 = 0 then some ((-1000000001 : Int32), q1.2)
   else ((m_X11_in (x2).toInt64 (0 : Int64) (3 : Int64) q1.2).bind fun q3 => (if q3.1 = 0 then some ((-1000000002 : Int32), q3.2)
   else ((m_X11_in (x3).toInt64 (0 : Int64) (100 : Int64) q3.2).bind fun q5 => (if q5.1 = 0 then some ((-1000000002 : Int32), q5.2)
   else ((m_X11_in (x4).toInt64 (0 : Int64) (1 : Int64) q5.2).bind fun q7 => (if q7.1 = 0 then some ((-1000000002 : Int32), q7.2)
   else (if g_in ((5 : Int32) + x2) 45 then (if g_in ((3 : Int32) + ((2 : Int32) * x1)) 39 then (g_lt ((q7.2.1 79 ((5 : Int32) + x2).toNatClampNeg) - (q7.2.1 81 ((3 : Int32) + ((2 : Int32) * x1)).toNatClampNeg)) fun v11 => m_X11_buy_79 N N x1 x3 x4 v11 (-1 : Int32) (0 : Int32) (0 : Int32) q7.2) else none) else none)))))))))
/-! m_X11_asides -/
def m_X11_asides_2 (N : Nat) : Nat → Int32 → g_St → Option (g_St)
  | 0, _, _ => none
  | fu + 1, x1, σ => (if (39 : Int32) ≤ x1 then some σ
   else (if g_in x1 39 then (if g_in x1 39 then (g_lt (g_sI σ 86 x1.toNatClampNeg (σ.1 81 x1.toNatClampNeg)) fun σ4 => (g_lt (x1 + (1 : Int32)) fun v5 => m_X11_asides_2 N fu v5 σ4)) else none) else none))
def m_X11_asides (N : Nat) (σ : g_St) : Option (g_St) := m_X11_asides_2 N N (0 : Int32) σ
/-! m_X11_backs -/
def m_X11_backs_2 (N : Nat) : Nat → Int32 → g_St → Option (g_St)
  | 0, _, _ => none
  | fu + 1, x1, σ => (if (39 : Int32) ≤ x1 then some σ
   else (if g_in x1 39 then (if g_in x1 39 then (g_lt (g_sI σ 81 x1.toNatClampNeg (σ.1 86 x1.toNatClampNeg)) fun σ4 => (g_lt (x1 + (1 : Int32)) fun v5 => m_X11_backs_2 N fu v5 σ4)) else none) else none))
def m_X11_backs (N : Nat) (σ : g_St) : Option (g_St) := m_X11_backs_2 N N (0 : Int32) σ
/-! m_X11_runs -/
def m_X11_runs_32 (N : Nat) : Nat → Int32 → Int32 → Int32 → g_St → Option (Int32 × g_St)
  | 0, _, _, _, _ => none
  | fu + 1, x2, x3, x4, σ => (if x4 ≤ (σ.1 81 0) then ((m_X11_spread N σ).bind fun q2 => ((m_X11_backs N q2.2).bind fun σ3 => (g_lt (g_sI σ3 77 8 x3) fun σ4 => some (q2.1, σ4))))
   else ((m_X11_lot N σ).bind fun q5 => ((m_X11_draws q5.1 x2 q5.2).bind fun σ6 => m_X11_runs_32 N fu x2 x3 x4 σ6)))
def m_X11_runs (N : Nat) (x1 : Int32) (x2 : Int32) (σ : g_St) : Option (Int32 × g_St) := (g_lt (σ.1 77 8) fun v1 => (g_lt (g_sI σ 81 1 (0 : Int32)) fun σ2 => ((m_X11_all σ2).bind fun q3 => (g_lt (g_sI q3.2 81 2 q3.1) fun σ4 => (g_lt ((σ4.1 81 0) + x1) fun v5 => m_X11_runs_32 N N x2 v1 v5 σ4)))))
/-! m_X11_evens -/
def m_X11_evens (N : Nat) (x1 : Int32) (x2 : Int32) (σ : g_St) : Option (Int32 × g_St) := ((m_X11_in (x1).toInt64 (1 : Int64) (20 : Int64) σ).bind fun q1 => (if q1.1 = 0 then some ((-1000000002 : Int32), q1.2)
   else ((m_X11_in (x2).toInt64 (0 : Int64) (1 : Int64) q1.2).bind fun q3 => (if q3.1 = 0 then some ((-1000000002 : Int32), q3.2)
   else (if (q3.2.1 79 0) = 0 then some ((-1000000003 : Int32), q3.2)
   else (if (q3.2.1 79 1) = 0 then some ((-1000000003 : Int32), q3.2)
   else ((m_X11_asides N q3.2).bind fun σ7 => ((m_X11_runs N x1 (1 : Int32) σ7).bind fun q8 => ((m_X11_runs N x1 (0 : Int32) q8.2).bind fun q9 => (if x2 = (1 : Int32) then (if q9.1 ≤ q8.1 then some (q9.1, q9.2)
   else some (q8.1, q9.2))
   else (if q9.1 ≤ q8.1 then (if q8.1 ≤ q9.1 then some ((2 : Int32), q9.2)
   else some ((0 : Int32), q9.2))
   else some ((1 : Int32), q9.2))))))))))))
/-! m_X11_mayWed -/
def m_X11_mayWed_44 (x3 : Int32) (x4 : Int32) (x5 : Int32) (s0 : Int32) (σ : g_St) : Option (Int32 × g_St) := (if x4 < (σ.1 79 7) then some ((0 : Int32), σ)
   else (if x5 < (σ.1 79 7) then some ((0 : Int32), σ)
   else (if x3 < s0 then some ((0 : Int32), σ)
   else some ((1 : Int32), σ))))
def m_X11_mayWed (x1 : Int32) (x2 : Int32) (x3 : Int32) (σ : g_St) : Option (Int32 × g_St) := (if g_in ((3 : Int32) + ((2 : Int32) * x1)) 39 then (g_lt (σ.1 81 ((3 : Int32) + ((2 : Int32) * x1)).toNatClampNeg) fun v2 => (if g_in ((3 : Int32) + ((2 : Int32) * x2)) 39 then (g_lt (σ.1 81 ((3 : Int32) + ((2 : Int32) * x2)).toNatClampNeg) fun v4 => (if v4 ≤ v2 then m_X11_mayWed_44 x3 v2 v4 (v2 - v4) σ
   else m_X11_mayWed_44 x3 v2 v4 (v4 - v2) σ)) else none)) else none)
/-! m_X11_mostPairs -/
def m_X11_mostPairs_284 (k35 : Int32 → Int32 → Int32 → Int32 → Int32 → g_St → Option (Int32 × g_St)) (N : Nat) (x1 : Int32) (x2 : Int32) (x3 : Int32) (x4 : Int32) (x5 : Int32) (σ : g_St) : Option (Int32 × g_St) := (g_lt (x5 + (1 : Int32)) fun v1 => k35 x1 x2 x3 x4 v1 σ)
def m_X11_mostPairs_258 (k35 : Int32 → Int32 → Int32 → Int32 → Int32 → g_St → Option (Int32 × g_St)) (N : Nat) : Nat → Int32 → Int32 → Int32 → Int32 → Int32 → Int32 → g_St → Option (Int32 × g_St)
  | 0, _, _, _, _, _, _, _ => none
  | fu + 1, x1, x2, x3, x4, x5, x9, σ => (if x2 ≤ x9 then m_X11_mostPairs_284 k35 N x1 x2 x3 x4 x5 σ
   else (if g_in x9 6 then (if g_in x9 6 then (g_lt (g_sI σ 88 x9.toNatClampNeg (σ.1 87 x9.toNatClampNeg)) fun σ4 => (g_lt (x9 + (1 : Int32)) fun v5 => m_X11_mostPairs_258 k35 N fu x1 x2 x3 x4 x5 v5 σ4)) else none) else none))
def m_X11_mostPairs_239 (k35 : Int32 → Int32 → Int32 → Int32 → Int32 → g_St → Option (Int32 × g_St)) (N : Nat) (x1 : Int32) (x2 : Int32) (x3 : Int32) (x4 : Int32) (x5 : Int32) (x7 : Int32) (x8 : Int32) (σ : g_St) : Option (Int32 × g_St) := (if x8 = 0 then m_X11_mostPairs_284 k35 N x1 x2 x3 x4 x5 σ
   else (if x7 ≤ x4 then m_X11_mostPairs_284 k35 N x1 x2 x3 x4 x5 σ
   else m_X11_mostPairs_258 k35 N N x1 x2 x3 x7 x5 (0 : Int32) σ))
def m_X11_mostPairs_231 (k35 : Int32 → Int32 → Int32 → Int32 → Int32 → g_St → Option (Int32 × g_St)) (k187 : Int32 → Int32 → Int32 → Int32 → Int32 → Int32 → Int32 → Int32 → g_St → Option (Int32 × g_St)) (N : Nat) (x1 : Int32) (x2 : Int32) (x3 : Int32) (x4 : Int32) (x5 : Int32) (x7 : Int32) (x9 : Int32) (s0 : Int32) (σ : g_St) : Option (Int32 × g_St) := (g_lt (x9 + (1 : Int32)) fun v1 => k187 x1 x2 x3 x4 x5 x7 s0 v1 σ)
def m_X11_mostPairs_226 (k35 : Int32 → Int32 → Int32 → Int32 → Int32 → g_St → Option (Int32 × g_St)) (k187 : Int32 → Int32 → Int32 → Int32 → Int32 → Int32 → Int32 → Int32 → g_St → Option (Int32 × g_St)) (N : Nat) (x1 : Int32) (x2 : Int32) (x3 : Int32) (x4 : Int32) (x5 : Int32) (x7 : Int32) (x9 : Int32) (σ : g_St) : Option (Int32 × g_St) := m_X11_mostPairs_231 k35 k187 N x1 x2 x3 x4 x5 x7 x9 (1 : Int32) σ
def m_X11_mostPairs_187 (k35 : Int32 → Int32 → Int32 → Int32 → Int32 → g_St → Option (Int32 × g_St)) (N : Nat) : Nat → Int32 → Int32 → Int32 → Int32 → Int32 → Int32 → Int32 → Int32 → g_St → Option (Int32 × g_St)
  | 0, _, _, _, _, _, _, _, _, _ => none
  | fu + 1, x1, x2, x3, x4, x5, x7, x8, x9, σ => (if x2 ≤ x9 then m_X11_mostPairs_239 k35 N x1 x2 x3 x4 x5 x7 x8 σ
   else (if x8 = 0 then m_X11_mostPairs_239 k35 N x1 x2 x3 x4 x5 x7 x8 σ
   else (if g_in x9 6 then (if (σ.1 87 x9.toNatClampNeg) = (-1 : Int32) then m_X11_mostPairs_226 k35 (m_X11_mostPairs_187 k35 N fu) N x1 x2 x3 x4 x5 x7 x9 σ
   else (if g_in x9 6 then (if g_in (σ.1 87 x9.toNatClampNeg) 6 then (if (σ.1 87 (σ.1 87 x9.toNatClampNeg).toNatClampNeg) = x9 then m_X11_mostPairs_226 k35 (m_X11_mostPairs_187 k35 N fu) N x1 x2 x3 x4 x5 x7 x9 σ
   else m_X11_mostPairs_231 k35 (m_X11_mostPairs_187 k35 N fu) N x1 x2 x3 x4 x5 x7 x9 (0 : Int32) σ) else none) else none)) else none)))
def m_X11_mostPairs_175 (k35 : Int32 → Int32 → Int32 → Int32 → Int32 → g_St → Option (Int32 × g_St)) (k56 : Int32 → Int32 → Int32 → Int32 → Int32 → Int32 → Int32 → Int32 → Int32 → g_St → Option (Int32 × g_St)) (N : Nat) (x1 : Int32) (x2 : Int32) (x3 : Int32) (x4 : Int32) (x5 : Int32) (x6 : Int32) (x8 : Int32) (x9 : Int32) (s0 : Int32) (s1 : Int32) (σ : g_St) : Option (Int32 × g_St) := (g_lt (s0 + s1) fun v1 => (g_lt (x9 + (-1 : Int32)) fun v2 => k56 x1 x2 x3 x4 x5 x6 v1 x8 v2 σ))
def m_X11_mostPairs_155 (k35 : Int32 → Int32 → Int32 → Int32 → Int32 → g_St → Option (Int32 × g_St)) (k56 : Int32 → Int32 → Int32 → Int32 → Int32 → Int32 → Int32 → Int32 → Int32 → g_St → Option (Int32 × g_St)) (N : Nat) (x1 : Int32) (x2 : Int32) (x3 : Int32) (x4 : Int32) (x5 : Int32) (x6 : Int32) (x7 : Int32) (x9 : Int32) (s0 : Int32) (σ : g_St) : Option (Int32 × g_St) := (if g_in x9 6 then (if (σ.1 87 x9.toNatClampNeg) = (-1 : Int32) then m_X11_mostPairs_175 k35 k56 N x1 x2 x3 x4 x5 x6 s0 x9 x7 (0 : Int32) σ
   else m_X11_mostPairs_175 k35 k56 N x1 x2 x3 x4 x5 x6 s0 x9 x7 (1 : Int32) σ) else none)
def m_X11_mostPairs_154 (k35 : Int32 → Int32 → Int32 → Int32 → Int32 → g_St → Option (Int32 × g_St)) (k56 : Int32 → Int32 → Int32 → Int32 → Int32 → Int32 → Int32 → Int32 → Int32 → g_St → Option (Int32 × g_St)) (N : Nat) (x1 : Int32) (x2 : Int32) (x3 : Int32) (x4 : Int32) (x5 : Int32) (x6 : Int32) (x7 : Int32) (x9 : Int32) (σ : g_St) : Option (Int32 × g_St) := m_X11_mostPairs_155 k35 k56 N x1 x2 x3 x4 x5 x6 x7 x9 (0 : Int32) σ
def m_X11_mostPairs_150 (k35 : Int32 → Int32 → Int32 → Int32 → Int32 → g_St → Option (Int32 × g_St)) (k56 : Int32 → Int32 → Int32 → Int32 → Int32 → Int32 → Int32 → Int32 → Int32 → g_St → Option (Int32 × g_St)) (N : Nat) (x1 : Int32) (x2 : Int32) (x3 : Int32) (x4 : Int32) (x5 : Int32) (x6 : Int32) (x7 : Int32) (x9 : Int32) (σ : g_St) : Option (Int32 × g_St) := m_X11_mostPairs_155 k35 k56 N x1 x2 x3 x4 x5 x6 x7 x9 (1 : Int32) σ
def m_X11_mostPairs_86 (k35 : Int32 → Int32 → Int32 → Int32 → Int32 → g_St → Option (Int32 × g_St)) (k56 : Int32 → Int32 → Int32 → Int32 → Int32 → Int32 → Int32 → Int32 → Int32 → g_St → Option (Int32 × g_St)) (N : Nat) (x1 : Int32) (x2 : Int32) (x3 : Int32) (x4 : Int32) (x5 : Int32) (x6 : Int32) (x7 : Int32) (x8 : Int32) (x9 : Int32) (s1 : Int32) (s2 : Int32) (σ : g_St) : Option (Int32 × g_St) := (if g_in s1 6 then (g_lt (g_sI σ 87 s1.toNatClampNeg s2) fun σ2 => (g_lt (x6 / (7 : Int32)) fun v3 => (if x8 = 0 then m_X11_mostPairs_154 k35 k56 N x1 x2 x3 x4 x5 v3 x7 x9 σ2
   else (if g_in x9 6 then (if (σ2.1 87 x9.toNatClampNeg) = (-1 : Int32) then m_X11_mostPairs_150 k35 k56 N x1 x2 x3 x4 x5 v3 x7 x9 σ2
   else (if g_in x9 6 then (if x2 ≤ (σ2.1 87 x9.toNatClampNeg) then m_X11_mostPairs_154 k35 k56 N x1 x2 x3 x4 x5 v3 x7 x9 σ2
   else (if g_in x9 6 then (if (σ2.1 87 x9.toNatClampNeg) = x9 then m_X11_mostPairs_154 k35 k56 N x1 x2 x3 x4 x5 v3 x7 x9 σ2
   else (if g_in x9 6 then ((m_X11_mayWed x9 (σ2.1 87 x9.toNatClampNeg) x1 σ2).bind fun q12 => (if q12.1 = 0 then m_X11_mostPairs_154 k35 k56 N x1 x2 x3 x4 x5 v3 x7 x9 q12.2
   else m_X11_mostPairs_150 k35 k56 N x1 x2 x3 x4 x5 v3 x7 x9 q12.2)) else none)) else none)) else none)) else none)))) else none)
def m_X11_mostPairs_56 (k35 : Int32 → Int32 → Int32 → Int32 → Int32 → g_St → Option (Int32 × g_St)) (N : Nat) : Nat → Int32 → Int32 → Int32 → Int32 → Int32 → Int32 → Int32 → Int32 → Int32 → g_St → Option (Int32 × g_St)
  | 0, _, _, _, _, _, _, _, _, _, _ => none
  | fu + 1, x1, x2, x3, x4, x5, x6, x7, x8, x9, σ => (if x9 < 0 then m_X11_mostPairs_187 k35 N N x1 x2 x3 x4 x5 x7 x8 (0 : Int32) σ
   else (if (x6 - x6 / (7 : Int32) * (7 : Int32)) = (6 : Int32) then m_X11_mostPairs_86 k35 (m_X11_mostPairs_56 k35 N fu) N x1 x2 x3 x4 x5 x6 x7 x8 x9 x9 (-1 : Int32) σ
   else m_X11_mostPairs_86 k35 (m_X11_mostPairs_56 k35 N fu) N x1 x2 x3 x4 x5 x6 x7 x8 x9 x9 (x6 - x6 / (7 : Int32) * (7 : Int32)) σ))
def m_X11_mostPairs_35 (N : Nat) : Nat → Int32 → Int32 → Int32 → Int32 → Int32 → g_St → Option (Int32 × g_St)
  | 0, _, _, _, _, _, _ => none
  | fu + 1, x1, x2, x3, x4, x5, σ => (if x3 ≤ x5 then some ((x4 / (2 : Int32)), σ)
   else (g_lt (x2 - (1 : Int32)) fun v2 => m_X11_mostPairs_56 (m_X11_mostPairs_35 N fu) N N x1 x2 x3 x4 x5 x5 (0 : Int32) (1 : Int32) v2 σ))
def m_X11_mostPairs_12 (N : Nat) : Nat → Int32 → Int32 → Int32 → Int32 → g_St → Option (Int32 × g_St)
  | 0, _, _, _, _, _ => none
  | fu + 1, x1, x2, x3, x4, σ => (if x2 ≤ x4 then m_X11_mostPairs_35 N N x1 x2 x3 (-1 : Int32) (0 : Int32) σ
   else (g_lt (x3 * (7 : Int32)) fun v2 => (g_lt (x4 + (1 : Int32)) fun v3 => m_X11_mostPairs_12 N fu x1 x2 v2 v3 σ)))
def m_X11_mostPairs (N : Nat) (x1 : Int32) (σ : g_St) : Option (Int32 × g_St) := (g_lt (σ.1 79 0) fun v1 => m_X11_mostPairs_12 N N x1 v1 (1 : Int32) (0 : Int32) σ)
/-! m_X11_couples -/
def m_X11_couples_16 (N : Nat) (x1 : Int32) (x2 : Int32) (σ : g_St) : Option (Int32 × g_St) := ((m_X11_in (x1).toInt64 (0 : Int64) (99 : Int64) σ).bind fun q1 => (if q1.1 = 0 then some ((-1000000002 : Int32), q1.2)
   else ((m_X11_mostPairs N x1 q1.2).bind fun q3 => (if x2 = (-1 : Int32) then some (q3.1, q3.2)
   else (if g_in x2 6 then some ((q3.2.1 88 x2.toNatClampNeg), q3.2) else none)))))
def m_X11_couples (N : Nat) (x1 : Int32) (x2 : Int32) (σ : g_St) : Option (Int32 × g_St) := (if x2 = (-1 : Int32) then m_X11_couples_16 N x1 x2 σ
   else ((m_X11_isPerson x2 σ).bind fun q2 => (if q2.1 = 0 then some ((-1000000001 : Int32), q2.2)
   else m_X11_couples_16 N x1 x2 q2.2)))
/-! m_X11_see -/
def m_X11_see (x1 : Int32) (σ : g_St) : Option (Int32 × g_St) := ((m_X11_isTicket x1 σ).bind fun q1 => (if q1.1 = 0 then some ((-1000000001 : Int32), q1.2)
   else (if (q1.2.1 77 17) = (8 : Int32) then some ((-1000000004 : Int32), q1.2)
   else (if g_in (q1.2.1 77 17) 8 then (g_lt (g_sI q1.2 89 (q1.2.1 77 17).toNatClampNeg x1) fun σ5 => (g_lt (g_sI σ5 77 17 ((σ5.1 77 17) + (1 : Int32))) fun σ6 => some ((σ6.1 77 17), σ6))) else none))))
/-! m_X11_guess -/
def m_X11_guess_74 (k32 : Int32 → Int64 → Int32 → Int32 → g_St → Option (Int64 × g_St)) (N : Nat) (x1 : Int32) (x4 : Int32) (x5 : Int32) (s0 : Int64) (s1 : Int32) (σ : g_St) : Option (Int64 × g_St) := (if (x4).toInt64 = 0 then none else (g_lt ((s0 * (s1).toInt64) / (x4).toInt64) fun v2 => (g_lt (x5 + (1 : Int32)) fun v3 => k32 x1 v2 x4 v3 σ)))
def m_X11_guess_32 (N : Nat) : Nat → Int32 → Int64 → Int32 → Int32 → g_St → Option (Int64 × g_St)
  | 0, _, _, _, _, _ => none
  | fu + 1, x1, x2, x4, x5, σ => (if (σ.1 77 17) ≤ x5 then some (x2, σ)
   else (if g_in x5 8 then (g_lt (σ.1 89 x5.toNatClampNeg) fun v3 => (if v3 = x1 then ((m_X11_weight v3 σ).bind fun q6 => m_X11_guess_74 (m_X11_guess_32 N fu) N x1 x4 x5 x2 ((2 : Int32) * q6.1) q6.2)
   else ((m_X11_weight v3 σ).bind fun q5 => m_X11_guess_74 (m_X11_guess_32 N fu) N x1 x4 x5 x2 q5.1 q5.2))) else none))
def m_X11_guess_26 (N : Nat) (x1 : Int32) (x2 : Int64) (s0 : Int32) (s1 : Int32) (σ : g_St) : Option (Int64 × g_St) := (g_lt (s0 + s1) fun v1 => m_X11_guess_32 N N x1 x2 v1 (0 : Int32) σ)
def m_X11_guess (N : Nat) (x1 : Int32) (σ : g_St) : Option (Int64 × g_St) := ((m_X11_all σ).bind fun q1 => ((m_X11_weightOf N q1.1 q1.2).bind fun q2 => (if x1 = (-1 : Int32) then m_X11_guess_26 N x1 (1000000000 : Int64) q2.1 (0 : Int32) q2.2
   else ((m_X11_weight x1 q2.2).bind fun q4 => m_X11_guess_26 N x1 (1000000000 : Int64) q2.1 q4.1 q4.2))))
/-! m_X11_belief -/
def m_X11_belief_25 (N : Nat) : Nat → Int32 → Int64 → Int32 → g_St → Option (Int32 × g_St)
  | 0, _, _, _, _ => none
  | fu + 1, x1, x2, x4, σ => (if (σ.1 79 1) ≤ x4 then (if (lg_cmp x2 (0 : Int64)) = 0 then some ((0 : Int32), σ)
   else ((m_X11_guess N x1 σ).bind fun q3 => (if x2 = 0 then none else some ((((q3.1 * (1000000 : Int64)) / x2)).toInt32, q3.2))))
   else ((m_X11_guess N x4 σ).bind fun q5 => (g_lt (x2 + q5.1) fun v6 => (g_lt (x4 + (1 : Int32)) fun v7 => m_X11_belief_25 N fu x1 v6 v7 q5.2))))
def m_X11_belief_16 (N : Nat) (x1 : Int32) (σ : g_St) : Option (Int32 × g_St) := ((m_X11_guess N (-1 : Int32) σ).bind fun q1 => m_X11_belief_25 N N x1 q1.1 (0 : Int32) q1.2)
def m_X11_belief (N : Nat) (x1 : Int32) (σ : g_St) : Option (Int32 × g_St) := (if x1 = (-1 : Int32) then m_X11_belief_16 N x1 σ
   else ((m_X11_isTicket x1 σ).bind fun q2 => (if q2.1 = 0 then some ((-1000000001 : Int32), q2.2)
   else m_X11_belief_16 N x1 q2.2)))
/-! m_X11_likeliest -/
def m_X11_likeliest_58 (k18 : Int32 → Int64 → Int32 → g_St → Option (Int32 × g_St)) (N : Nat) (x1 : Int32) (x4 : Int32) (s0 : Int64) (σ : g_St) : Option (Int32 × g_St) := (g_lt (x4 + (-1 : Int32)) fun v1 => k18 x1 s0 v1 σ)
def m_X11_likeliest_44 (k18 : Int32 → Int64 → Int32 → g_St → Option (Int32 × g_St)) (N : Nat) (x2 : Int64) (x4 : Int32) (x5 : Int64) (s0 : Int32) (σ : g_St) : Option (Int32 × g_St) := (if (lg_cmp x5 x2) < 0 then m_X11_likeliest_58 k18 N s0 x4 x2 σ
   else m_X11_likeliest_58 k18 N s0 x4 x5 σ)
def m_X11_likeliest_18 (N : Nat) : Nat → Int32 → Int64 → Int32 → g_St → Option (Int32 × g_St)
  | 0, _, _, _, _ => none
  | fu + 1, x1, x2, x4, σ => (if x4 < 0 then some (x1, σ)
   else ((m_X11_guess N x4 σ).bind fun q2 => (if (lg_cmp q2.1 x2) < 0 then m_X11_likeliest_44 (m_X11_likeliest_18 N fu) N x2 x4 q2.1 x1 q2.2
   else m_X11_likeliest_44 (m_X11_likeliest_18 N fu) N x2 x4 q2.1 x4 q2.2)))
def m_X11_likeliest (N : Nat) (σ : g_St) : Option (Int32 × g_St) := ((m_X11_guess N (-1 : Int32) σ).bind fun q1 => (g_lt ((q1.2.1 79 1) - (1 : Int32)) fun v2 => m_X11_likeliest_18 N N (-1 : Int32) q1.1 v2 q1.2))
/-! m_X11_candles -/
def m_X11_candles (x1 : Int32) (x2 : Int32) (σ : g_St) : Option (Int32 × g_St) := ((m_X11_isPerson x1 σ).bind fun q1 => (if q1.1 = 0 then some ((-1000000001 : Int32), q1.2)
   else ((m_X11_in (x2).toInt64 (0 : Int64) (999 : Int64) q1.2).bind fun q3 => (if q3.1 = 0 then some ((-1000000002 : Int32), q3.2)
   else (if g_in x1 6 then (g_lt (g_sI q3.2 90 x1.toNatClampNeg x2) fun σ6 => (g_lt (g_sI σ6 77 19 ((σ6.1 77 19) ||| ((1 : Int32) <<< (x1 &&& 31)))) fun σ7 => some ((σ7.1 77 19), σ7))) else none)))))
/-! m_X11_goThrough -/
def m_X11_goThrough_282 (k48 : Int32 → Int32 → Int32 → g_St → Option (g_St)) (N : Nat) (x1 : Int32) (x2 : Int32) (x3 : Int32) (s1 : Int32) (s2 : Int32) (σ : g_St) : Option (g_St) := (g_lt (g_sI σ 77 23 (s1 + s2)) fun σ1 => (g_lt (x3 + (1 : Int32)) fun v2 => k48 x1 x2 v2 σ1))
def m_X11_goThrough_263 (k48 : Int32 → Int32 → Int32 → g_St → Option (g_St)) (N : Nat) (x1 : Int32) (x2 : Int32) (x3 : Int32) (x5 : Int32) (s1 : Int32) (s2 : Int32) (σ : g_St) : Option (g_St) := (g_lt (g_sI σ 77 25 (s1 &&& s2)) fun σ1 => (if x5 = 0 then m_X11_goThrough_282 k48 N x1 x2 x3 (σ1.1 77 23) (0 : Int32) σ1
   else m_X11_goThrough_282 k48 N x1 x2 x3 (σ1.1 77 23) (1 : Int32) σ1))
def m_X11_goThrough_244 (k48 : Int32 → Int32 → Int32 → g_St → Option (g_St)) (N : Nat) (x1 : Int32) (x2 : Int32) (x3 : Int32) (x4 : Int32) (x5 : Int32) (s1 : Int32) (σ : g_St) : Option (g_St) := (g_lt (g_sI σ 77 24 s1) fun σ1 => (if x5 = 0 then m_X11_goThrough_263 k48 N x1 x2 x3 x5 (σ1.1 77 25) (-1 : Int32) σ1
   else m_X11_goThrough_263 k48 N x1 x2 x3 x5 (σ1.1 77 25) x4 σ1))
def m_X11_goThrough_240 (k48 : Int32 → Int32 → Int32 → g_St → Option (g_St)) (N : Nat) (x1 : Int32) (x2 : Int32) (x3 : Int32) (x4 : Int32) (x5 : Int32) (σ : g_St) : Option (g_St) := m_X11_goThrough_244 k48 N x1 x2 x3 x4 x5 (σ.1 77 24) σ
def m_X11_goThrough_211 (k48 : Int32 → Int32 → Int32 → g_St → Option (g_St)) (k157 : Int32 → Int32 → Int32 → Int32 → Int32 → Int32 → g_St → Option (g_St)) (N : Nat) (x1 : Int32) (x2 : Int32) (x3 : Int32) (x4 : Int32) (x7 : Int32) (s0 : Int32) (σ : g_St) : Option (g_St) := (g_lt (x7 + (1 : Int32)) fun v1 => k157 x1 x2 x3 x4 s0 v1 σ)
def m_X11_goThrough_210 (k48 : Int32 → Int32 → Int32 → g_St → Option (g_St)) (k157 : Int32 → Int32 → Int32 → Int32 → Int32 → Int32 → g_St → Option (g_St)) (N : Nat) (x1 : Int32) (x2 : Int32) (x3 : Int32) (x4 : Int32) (x7 : Int32) (σ : g_St) : Option (g_St) := m_X11_goThrough_211 k48 k157 N x1 x2 x3 x4 x7 (0 : Int32) σ
def m_X11_goThrough_206 (k48 : Int32 → Int32 → Int32 → g_St → Option (g_St)) (k157 : Int32 → Int32 → Int32 → Int32 → Int32 → Int32 → g_St → Option (g_St)) (N : Nat) (x1 : Int32) (x2 : Int32) (x3 : Int32) (x4 : Int32) (x7 : Int32) (σ : g_St) : Option (g_St) := m_X11_goThrough_211 k48 k157 N x1 x2 x3 x4 x7 (1 : Int32) σ
def m_X11_goThrough_157 (k48 : Int32 → Int32 → Int32 → g_St → Option (g_St)) (N : Nat) : Nat → Int32 → Int32 → Int32 → Int32 → Int32 → Int32 → g_St → Option (g_St)
  | 0, _, _, _, _, _, _, _ => none
  | fu + 1, x1, x2, x3, x4, x5, x7, σ => (if (σ.1 79 0) ≤ x7 then ((m_X11_backs N σ).bind fun σ2 => (if x5 = 0 then m_X11_goThrough_240 k48 N x1 x2 x3 x4 x5 σ2
   else (if (σ2.1 77 23) = 0 then m_X11_goThrough_244 k48 N x1 x2 x3 x4 x5 x3 σ2
   else m_X11_goThrough_240 k48 N x1 x2 x3 x4 x5 σ2)))
   else (if x5 = 0 then m_X11_goThrough_210 k48 (m_X11_goThrough_157 k48 N fu) N x1 x2 x3 x4 x7 σ
   else (if (((σ.1 77 19) >>> (x7 &&& 31)) &&& (1 : Int32)) = 0 then m_X11_goThrough_206 k48 (m_X11_goThrough_157 k48 N fu) N x1 x2 x3 x4 x7 σ
   else (if g_in ((3 : Int32) + ((2 : Int32) * x7)) 39 then (if g_in x7 6 then (if (σ.1 81 ((3 : Int32) + ((2 : Int32) * x7)).toNatClampNeg) = (σ.1 90 x7.toNatClampNeg) then m_X11_goThrough_206 k48 (m_X11_goThrough_157 k48 N fu) N x1 x2 x3 x4 x7 σ
   else m_X11_goThrough_210 k48 (m_X11_goThrough_157 k48 N fu) N x1 x2 x3 x4 x7 σ) else none) else none))))
def m_X11_goThrough_154 (k48 : Int32 → Int32 → Int32 → g_St → Option (g_St)) (N : Nat) (x1 : Int32) (x2 : Int32) (x3 : Int32) (x4 : Int32) (x5 : Int32) (σ : g_St) : Option (g_St) := m_X11_goThrough_157 k48 N N x1 x2 x3 x4 x5 (0 : Int32) σ
def m_X11_goThrough_148 (k48 : Int32 → Int32 → Int32 → g_St → Option (g_St)) (k65 : Int32 → Int32 → Int32 → Int32 → Int32 → Int32 → Int32 → g_St → Option (g_St)) (N : Nat) (x1 : Int32) (x2 : Int32) (x3 : Int32) (x4 : Int32) (x5 : Int32) (x6 : Int32) (x7 : Int32) (σ : g_St) : Option (g_St) := (g_lt (x7 + (1 : Int32)) fun v1 => k65 x1 x2 x3 x4 x5 x6 v1 σ)
def m_X11_goThrough_120 (k48 : Int32 → Int32 → Int32 → g_St → Option (g_St)) (k65 : Int32 → Int32 → Int32 → Int32 → Int32 → Int32 → Int32 → g_St → Option (g_St)) (N : Nat) (x1 : Int32) (x2 : Int32) (x3 : Int32) (x4 : Int32) (x6 : Int32) (x7 : Int32) (x8 : Int32) (s0 : Int32) (σ : g_St) : Option (g_St) := (g_lt (x4 ||| ((1 : Int32) <<< (x8 &&& 31))) fun v1 => (if s0 = 0 then m_X11_goThrough_148 k48 k65 N x1 x2 x3 v1 s0 x6 x7 σ
   else ((m_X11_draws x8 (σ.1 79 3) σ).bind fun σ3 => m_X11_goThrough_148 k48 k65 N x1 x2 x3 v1 s0 x6 x7 σ3)))
def m_X11_goThrough_65 (k48 : Int32 → Int32 → Int32 → g_St → Option (g_St)) (N : Nat) : Nat → Int32 → Int32 → Int32 → Int32 → Int32 → Int32 → Int32 → g_St → Option (g_St)
  | 0, _, _, _, _, _, _, _, _ => none
  | fu + 1, x1, x2, x3, x4, x5, x6, x7, σ => (if x1 ≤ x7 then m_X11_goThrough_154 k48 N x1 x2 x3 x4 x5 σ
   else (if x5 = 0 then m_X11_goThrough_154 k48 N x1 x2 x3 x4 x5 σ
   else (if (σ.1 79 1) = 0 then none else (g_lt (x6 / (σ.1 79 1)) fun v4 => (if v4 = 0 then none else (if (σ.1 79 1) = 0 then none else (g_lt ((x3 / v4) - (x3 / v4) / (σ.1 79 1) * (σ.1 79 1)) fun v7 => (if (((σ.1 81 2) >>> (v7 &&& 31)) &&& (1 : Int32)) = (1 : Int32) then m_X11_goThrough_120 k48 (m_X11_goThrough_65 k48 N fu) N x1 x2 x3 x4 v4 x7 v7 (1 : Int32) σ
   else m_X11_goThrough_120 k48 (m_X11_goThrough_65 k48 N fu) N x1 x2 x3 x4 v4 x7 v7 (0 : Int32) σ))))))))
def m_X11_goThrough_48 (N : Nat) : Nat → Int32 → Int32 → Int32 → g_St → Option (g_St)
  | 0, _, _, _, _ => none
  | fu + 1, x1, x2, x3, σ => (if x2 ≤ x3 then some σ
   else m_X11_goThrough_65 (m_X11_goThrough_48 N fu) N N x1 x2 x3 (0 : Int32) (1 : Int32) x2 (0 : Int32) σ)
def m_X11_goThrough_4 (N : Nat) : Nat → Int32 → Int32 → Int32 → g_St → Option (g_St)
  | 0, _, _, _, _ => none
  | fu + 1, x1, x2, x3, σ => (if x1 ≤ x3 then (g_lt (g_sI σ 77 23 (0 : Int32)) fun σ2 => (g_lt (g_sI σ2 77 24 (0 : Int32)) fun σ3 => ((m_X11_all σ3).bind fun q4 => (g_lt (g_sI q4.2 77 25 q4.1) fun σ5 => ((m_X11_asides N σ5).bind fun σ6 => m_X11_goThrough_48 N N x1 x2 (0 : Int32) σ6)))))
   else (g_lt (x2 * (σ.1 79 1)) fun v7 => (g_lt (x3 + (1 : Int32)) fun v8 => m_X11_goThrough_4 N fu x1 v7 v8 σ)))
def m_X11_goThrough (N : Nat) (x1 : Int32) (σ : g_St) : Option (g_St) := m_X11_goThrough_4 N N x1 (1 : Int32) (0 : Int32) σ
/-! m_X11_rows -/
def m_X11_rows_74 (N : Nat) : Nat → Int32 → Int32 → Int32 → g_St → Option (Int32 × g_St)
  | 0, _, _, _, _ => none
  | fu + 1, x2, x3, x4, σ => (if x4 ≤ x2 then (if (σ.1 79 1) = 0 then none else some ((x3 - x3 / (σ.1 79 1) * (σ.1 79 1)), σ))
   else (if (σ.1 79 1) = 0 then none else (g_lt (x3 / (σ.1 79 1)) fun v4 => (g_lt (x4 + (-1 : Int32)) fun v5 => m_X11_rows_74 N fu x2 v4 v5 σ))))
def m_X11_rows (N : Nat) (x1 : Int32) (x2 : Int32) (σ : g_St) : Option (Int32 × g_St) := ((m_X11_in (x1).toInt64 (1 : Int64) (4 : Int64) σ).bind fun q1 => (if q1.1 = 0 then some ((-1000000002 : Int32), q1.2)
   else (if (q1.2.1 79 1) = 0 then some ((-1000000003 : Int32), q1.2)
   else ((m_X11_goThrough N x1 q1.2).bind fun σ4 => (if x2 = (-1 : Int32) then some ((σ4.1 77 23), σ4)
   else (if (σ4.1 77 23) = 0 then some ((-1 : Int32), σ4)
   else ((m_X11_in (x2).toInt64 (0 : Int64) ((x1 - (1 : Int32))).toInt64 σ4).bind fun q7 => (if q7.1 = 0 then some ((-1 : Int32), q7.2)
   else (g_lt (q7.2.1 77 24) fun v9 => (g_lt (x1 - (1 : Int32)) fun v10 => m_X11_rows_74 N N x2 v9 v10 q7.2))))))))))
/-! m_X11_sure -/
def m_X11_sure (N : Nat) (x1 : Int32) (σ : g_St) : Option (Int32 × g_St) := ((m_X11_in (x1).toInt64 (1 : Int64) (4 : Int64) σ).bind fun q1 => (if q1.1 = 0 then some ((-1000000002 : Int32), q1.2)
   else (if (q1.2.1 79 1) = 0 then some ((-1000000003 : Int32), q1.2)
   else ((m_X11_goThrough N x1 q1.2).bind fun σ4 => (if (σ4.1 77 23) = 0 then some ((0 : Int32), σ4)
   else some ((σ4.1 77 25), σ4))))))
/-! m_X11_write -/
def m_X11_write (x1 : Int32) (σ : g_St) : Option (Int32 × g_St) := ((m_X11_isTicket x1 σ).bind fun q1 => (if q1.1 = 0 then some ((-1000000001 : Int32), q1.2)
   else (if (q1.2.1 77 21) = (20 : Int32) then some ((-1000000004 : Int32), q1.2)
   else (if g_in (q1.2.1 77 21) 20 then (g_lt (g_sI q1.2 91 (q1.2.1 77 21).toNatClampNeg x1) fun σ5 => (g_lt (g_sI σ5 77 21 ((σ5.1 77 21) + (1 : Int32))) fun σ6 => some ((σ6.1 77 21), σ6))) else none))))
/-! m_X11_reads -/
def m_X11_reads_2 (N : Nat) : Nat → Int32 → g_St → Option (Int32 × g_St)
  | 0, _, _ => none
  | fu + 1, x1, σ => (if (σ.1 77 21) ≤ x1 then some ((-1 : Int32), σ)
   else (if g_in x1 20 then (if (((σ.1 81 2) >>> ((σ.1 91 x1.toNatClampNeg) &&& 31)) &&& (1 : Int32)) = 0 then some (x1, σ)
   else (if g_in x1 20 then ((m_X11_draws (σ.1 91 x1.toNatClampNeg) (σ.1 79 3) σ).bind fun σ5 => (g_lt (x1 + (1 : Int32)) fun v6 => m_X11_reads_2 N fu v6 σ5)) else none)) else none))
def m_X11_reads (N : Nat) (σ : g_St) : Option (Int32 × g_St) := m_X11_reads_2 N N (0 : Int32) σ
/-! m_X11_judge -/
def m_X11_judge (N : Nat) (σ : g_St) : Option (Int32 × g_St) := ((m_X11_asides N σ).bind fun σ1 => ((m_X11_reads N σ1).bind fun q2 => ((m_X11_backs N q2.2).bind fun σ3 => some (q2.1, σ3))))
/-! m_X11_ageBy -/
def m_X11_ageBy (N : Nat) (x1 : Int32) (σ : g_St) : Option (Int32 × g_St) := ((m_X11_isPerson x1 σ).bind fun q1 => (if q1.1 = 0 then some ((-1000000001 : Int32), q1.2)
   else ((m_X11_asides N q1.2).bind fun σ3 => ((m_X11_reads N σ3).bind fun q4 => (if g_in ((3 : Int32) + ((2 : Int32) * x1)) 39 then (g_lt (q4.2.1 81 ((3 : Int32) + ((2 : Int32) * x1)).toNatClampNeg) fun v6 => ((m_X11_backs N q4.2).bind fun σ7 => some (v6, σ7))) else none)))))
/-! m_X11_tear -/
def m_X11_tear (N : Nat) (σ : g_St) : Option (Int32 × g_St) := ((m_X11_many N (σ.1 77 19) σ).bind fun q1 => (g_lt (((σ.1 77 17) + q1.1) + (q1.2.1 77 21)) fun v2 => (g_lt (g_sI q1.2 77 17 (0 : Int32)) fun σ3 => (g_lt (g_sI σ3 77 19 (0 : Int32)) fun σ4 => (g_lt (g_sI σ4 77 21 (0 : Int32)) fun σ5 => some (v2, σ5))))))
/-! m_X11_seed -/
def m_X11_seed (x1 : Int32) (σ : g_St) : Option (Int32 × g_St) := (if 0 ≤ x1 then (g_lt (σ.1 77 8) fun v2 => (g_lt (g_sI σ 77 8 x1) fun σ3 => some (v2, σ3)))
   else some ((-1000000002 : Int32), σ))
/-! m_X11_keep -/
def m_X11_keep_40 (N : Nat) : Nat → Int32 → Int32 → g_St → Option (Int32 × g_St)
  | 0, _, _, _ => none
  | fu + 1, x1, x2, σ => (if (39 : Int32) ≤ x2 then (g_lt (g_sI σ 77 9 (0 : Int32)) fun σ2 => some ((1 : Int32), σ2))
   else (if g_in x2 39 then (if g_in ((((41 : Int32) * x1) + (2 : Int32)) + x2) 82 then (g_lt (g_sI σ 92 ((((41 : Int32) * x1) + (2 : Int32)) + x2).toNatClampNeg (σ.1 81 x2.toNatClampNeg)) fun σ5 => (g_lt (x2 + (1 : Int32)) fun v6 => m_X11_keep_40 N fu x1 v6 σ5)) else none) else none))
def m_X11_keep (N : Nat) (x1 : Int32) (σ : g_St) : Option (Int32 × g_St) := ((m_X11_in (x1).toInt64 (0 : Int64) (1 : Int64) σ).bind fun q1 => (if q1.1 = 0 then some ((-1000000001 : Int32), q1.2)
   else (if g_in ((41 : Int32) * x1) 82 then (g_lt (g_sI q1.2 92 ((41 : Int32) * x1).toNatClampNeg (1 : Int32)) fun σ4 => (if g_in (((41 : Int32) * x1) + (1 : Int32)) 82 then (g_lt (g_sI σ4 92 (((41 : Int32) * x1) + (1 : Int32)).toNatClampNeg (σ4.1 77 8)) fun σ6 => m_X11_keep_40 N N x1 (0 : Int32) σ6) else none)) else none)))
/-! m_X11_goBack -/
def m_X11_goBack_45 (N : Nat) : Nat → Int32 → Int32 → g_St → Option (Int32 × g_St)
  | 0, _, _, _ => none
  | fu + 1, x1, x2, σ => (if (39 : Int32) ≤ x2 then (g_lt (g_sI σ 77 9 (0 : Int32)) fun σ2 => some ((1 : Int32), σ2))
   else (if g_in ((((41 : Int32) * x1) + (2 : Int32)) + x2) 82 then (if g_in x2 39 then (g_lt (g_sI σ 81 x2.toNatClampNeg (σ.1 92 ((((41 : Int32) * x1) + (2 : Int32)) + x2).toNatClampNeg)) fun σ5 => (g_lt (x2 + (1 : Int32)) fun v6 => m_X11_goBack_45 N fu x1 v6 σ5)) else none) else none))
def m_X11_goBack (N : Nat) (x1 : Int32) (σ : g_St) : Option (Int32 × g_St) := ((m_X11_in (x1).toInt64 (0 : Int64) (1 : Int64) σ).bind fun q1 => (if q1.1 = 0 then some ((-1000000001 : Int32), q1.2)
   else (if g_in ((41 : Int32) * x1) 82 then (if (q1.2.1 92 ((41 : Int32) * x1).toNatClampNeg) = 0 then some ((-1000000003 : Int32), q1.2)
   else (if g_in (((41 : Int32) * x1) + (1 : Int32)) 82 then (g_lt (g_sI q1.2 77 8 (q1.2.1 92 (((41 : Int32) * x1) + (1 : Int32)).toNatClampNeg)) fun σ6 => m_X11_goBack_45 N N x1 (0 : Int32) σ6) else none)) else none)))
