def m_law_975 (xs : Nat → Int32) (L : Nat) (k18 : Int32 → g_St → Option Unit) (N : Nat) (x3 : Int32) (σ : g_St) : Option Unit := (g_lt (x3 + (5 : Int32)) fun v1 => k18 v1 σ)
def m_law_18 (xs : Nat → Int32) (L : Nat) (N : Nat) : Nat → Int32 → g_St → Option Unit
  | 0, _, _ => none
  | fu + 1, x3, σ => (if ((Int32.ofNat L) - (5 : Int32)) < x3 then some ()
   else (if g_in x3 L then (g_lt ((xs x3.toNatClampNeg) &&& (31 : Int32)) fun v3 => (if v3 = (0 : Int32) then (if g_in (x3 + (1 : Int32)) L then ((m_X10_feed (xs (x3 + (1 : Int32)).toNatClampNeg) σ).bind fun q6 => (if g_in (x3 + (1 : Int32)) L then ((m_X11_feed (xs (x3 + (1 : Int32)).toNatClampNeg) q6.2).bind fun q8 => (if q6.1 = q8.1 then m_law_975 xs L (m_law_18 xs L N fu) N x3 q8.2
   else none)) else none)) else none)
   else (if v3 = (1 : Int32) then ((m_X10_town N σ).bind fun q11 => ((m_X11_town N q11.2).bind fun q12 => (if q11.1 = q12.1 then m_law_975 xs L (m_law_18 xs L N fu) N x3 q12.2
   else none)))
   else (if v3 = (2 : Int32) then ((m_X10_fault σ).bind fun q15 => ((m_X11_fault q15.2).bind fun q16 => (if q15.1 = q16.1 then m_law_975 xs L (m_law_18 xs L N fu) N x3 q16.2
   else none)))
   else (if v3 = (3 : Int32) then (if g_in (x3 + (1 : Int32)) L then ((m_X10_told N (xs (x3 + (1 : Int32)).toNatClampNeg) σ).bind fun q20 => (if g_in (x3 + (1 : Int32)) L then ((m_X11_told N (xs (x3 + (1 : Int32)).toNatClampNeg) q20.2).bind fun q22 => (if q20.1 = q22.1 then m_law_975 xs L (m_law_18 xs L N fu) N x3 q22.2
   else none)) else none)) else none)
   else (if v3 = (4 : Int32) then (if g_in (x3 + (1 : Int32)) L then (if g_in (x3 + (2 : Int32)) L then ((m_X10_person N (xs (x3 + (1 : Int32)).toNatClampNeg) (xs (x3 + (2 : Int32)).toNatClampNeg) σ).bind fun q27 => (if g_in (x3 + (1 : Int32)) L then (if g_in (x3 + (2 : Int32)) L then ((m_X11_person N (xs (x3 + (1 : Int32)).toNatClampNeg) (xs (x3 + (2 : Int32)).toNatClampNeg) q27.2).bind fun q30 => (if q27.1 = q30.1 then m_law_975 xs L (m_law_18 xs L N fu) N x3 q30.2
   else none)) else none) else none)) else none) else none)
   else (if v3 = (5 : Int32) then (if g_in (x3 + (1 : Int32)) L then (if g_in (x3 + (2 : Int32)) L then ((m_X10_ticket (xs (x3 + (1 : Int32)).toNatClampNeg) (xs (x3 + (2 : Int32)).toNatClampNeg) σ).bind fun q35 => (if g_in (x3 + (1 : Int32)) L then (if g_in (x3 + (2 : Int32)) L then ((m_X11_ticket (xs (x3 + (1 : Int32)).toNatClampNeg) (xs (x3 + (2 : Int32)).toNatClampNeg) q35.2).bind fun q38 => (if q35.1 = q38.1 then m_law_975 xs L (m_law_18 xs L N fu) N x3 q38.2
   else none)) else none) else none)) else none) else none)
   else (if v3 = (6 : Int32) then (if g_in (x3 + (1 : Int32)) L then ((m_X10_right (xs (x3 + (1 : Int32)).toNatClampNeg) σ).bind fun q42 => (if g_in (x3 + (1 : Int32)) L then ((m_X11_right (xs (x3 + (1 : Int32)).toNatClampNeg) q42.2).bind fun q44 => (if q42.1 = q44.1 then m_law_975 xs L (m_law_18 xs L N fu) N x3 q44.2
   else none)) else none)) else none)
   else (if v3 = (7 : Int32) then (if g_in (x3 + (1 : Int32)) L then ((m_X10_draw (xs (x3 + (1 : Int32)).toNatClampNeg) σ).bind fun q48 => (if g_in (x3 + (1 : Int32)) L then ((m_X11_draw N (xs (x3 + (1 : Int32)).toNatClampNeg) q48.2).bind fun q50 => (if q48.1 = q50.1 then m_law_975 xs L (m_law_18 xs L N fu) N x3 q50.2
   else none)) else none)) else none)
   else (if v3 = (8 : Int32) then (if g_in (x3 + (1 : Int32)) L then ((m_X10_lots N (xs (x3 + (1 : Int32)).toNatClampNeg) σ).bind fun q54 => (if g_in (x3 + (1 : Int32)) L then ((m_X11_lots N (xs (x3 + (1 : Int32)).toNatClampNeg) q54.2).bind fun q56 => (if q54.1 = q56.1 then m_law_975 xs L (m_law_18 xs L N fu) N x3 q56.2
   else none)) else none)) else none)
   else (if v3 = (9 : Int32) then (if g_in (x3 + (1 : Int32)) L then (if g_in (x3 + (2 : Int32)) L then ((m_X10_sell (xs (x3 + (1 : Int32)).toNatClampNeg) (xs (x3 + (2 : Int32)).toNatClampNeg) σ).bind fun q61 => (if g_in (x3 + (1 : Int32)) L then (if g_in (x3 + (2 : Int32)) L then ((m_X11_sell (xs (x3 + (1 : Int32)).toNatClampNeg) (xs (x3 + (2 : Int32)).toNatClampNeg) q61.2).bind fun q64 => (if q61.1 = q64.1 then m_law_975 xs L (m_law_18 xs L N fu) N x3 q64.2
   else none)) else none) else none)) else none) else none)
   else (if v3 = (10 : Int32) then (if g_in (x3 + (1 : Int32)) L then (if g_in (x3 + (2 : Int32)) L then ((m_X10_pawn (xs (x3 + (1 : Int32)).toNatClampNeg) (xs (x3 + (2 : Int32)).toNatClampNeg) σ).bind fun q69 => (if g_in (x3 + (1 : Int32)) L then (if g_in (x3 + (2 : Int32)) L then ((m_X11_pawn (xs (x3 + (1 : Int32)).toNatClampNeg) (xs (x3 + (2 : Int32)).toNatClampNeg) q69.2).bind fun q72 => (if q69.1 = q72.1 then m_law_975 xs L (m_law_18 xs L N fu) N x3 q72.2
   else none)) else none) else none)) else none) else none)
   else (if v3 = (11 : Int32) then (if g_in (x3 + (1 : Int32)) L then (if g_in (x3 + (2 : Int32)) L then ((m_X10_price (xs (x3 + (1 : Int32)).toNatClampNeg) (xs (x3 + (2 : Int32)).toNatClampNeg) σ).bind fun q77 => (if g_in (x3 + (1 : Int32)) L then (if g_in (x3 + (2 : Int32)) L then ((m_X11_price (xs (x3 + (1 : Int32)).toNatClampNeg) (xs (x3 + (2 : Int32)).toNatClampNeg) q77.2).bind fun q80 => (if q77.1 = q80.1 then m_law_975 xs L (m_law_18 xs L N fu) N x3 q80.2
   else none)) else none) else none)) else none) else none)
   else (if v3 = (12 : Int32) then (if g_in (x3 + (1 : Int32)) L then ((m_X10_undo (xs (x3 + (1 : Int32)).toNatClampNeg) σ).bind fun q84 => (if g_in (x3 + (1 : Int32)) L then ((m_X11_undo N (xs (x3 + (1 : Int32)).toNatClampNeg) q84.2).bind fun q86 => (if q84.1 = q86.1 then m_law_975 xs L (m_law_18 xs L N fu) N x3 q86.2
   else none)) else none)) else none)
   else (if v3 = (13 : Int32) then (if g_in (x3 + (1 : Int32)) L then (if g_in (x3 + (2 : Int32)) L then ((m_X10_odds N (xs (x3 + (1 : Int32)).toNatClampNeg) (xs (x3 + (2 : Int32)).toNatClampNeg) σ).bind fun q91 => (if g_in (x3 + (1 : Int32)) L then (if g_in (x3 + (2 : Int32)) L then ((m_X11_odds N (xs (x3 + (1 : Int32)).toNatClampNeg) (xs (x3 + (2 : Int32)).toNatClampNeg) q91.2).bind fun q94 => (if q91.1 = q94.1 then m_law_975 xs L (m_law_18 xs L N fu) N x3 q94.2
   else none)) else none) else none)) else none) else none)
   else (if v3 = (14 : Int32) then (if g_in (x3 + (1 : Int32)) L then (if g_in (x3 + (2 : Int32)) L then ((m_X10_never N (xs (x3 + (1 : Int32)).toNatClampNeg) (xs (x3 + (2 : Int32)).toNatClampNeg) σ).bind fun q99 => (if g_in (x3 + (1 : Int32)) L then (if g_in (x3 + (2 : Int32)) L then ((m_X11_never N (xs (x3 + (1 : Int32)).toNatClampNeg) (xs (x3 + (2 : Int32)).toNatClampNeg) q99.2).bind fun q102 => (if q99.1 = q102.1 then m_law_975 xs L (m_law_18 xs L N fu) N x3 q102.2
   else none)) else none) else none)) else none) else none)
   else (if v3 = (15 : Int32) then (if g_in (x3 + (1 : Int32)) L then (if g_in (x3 + (2 : Int32)) L then (if g_in (x3 + (3 : Int32)) L then (if g_in (x3 + (4 : Int32)) L then ((m_X10_buy N (xs (x3 + (1 : Int32)).toNatClampNeg) (xs (x3 + (2 : Int32)).toNatClampNeg) (xs (x3 + (3 : Int32)).toNatClampNeg) (xs (x3 + (4 : Int32)).toNatClampNeg) σ).bind fun q109 => (if g_in (x3 + (1 : Int32)) L then (if g_in (x3 + (2 : Int32)) L then (if g_in (x3 + (3 : Int32)) L then (if g_in (x3 + (4 : Int32)) L then ((m_X11_buy N (xs (x3 + (1 : Int32)).toNatClampNeg) (xs (x3 + (2 : Int32)).toNatClampNeg) (xs (x3 + (3 : Int32)).toNatClampNeg) (xs (x3 + (4 : Int32)).toNatClampNeg) q109.2).bind fun q114 => (if q109.1 = q114.1 then m_law_975 xs L (m_law_18 xs L N fu) N x3 q114.2
   else none)) else none) else none) else none) else none)) else none) else none) else none) else none)
   else (if v3 = (16 : Int32) then (if g_in (x3 + (1 : Int32)) L then (if g_in (x3 + (2 : Int32)) L then ((m_X10_evens N (xs (x3 + (1 : Int32)).toNatClampNeg) (xs (x3 + (2 : Int32)).toNatClampNeg) σ).bind fun q119 => (if g_in (x3 + (1 : Int32)) L then (if g_in (x3 + (2 : Int32)) L then ((m_X11_evens N (xs (x3 + (1 : Int32)).toNatClampNeg) (xs (x3 + (2 : Int32)).toNatClampNeg) q119.2).bind fun q122 => (if q119.1 = q122.1 then m_law_975 xs L (m_law_18 xs L N fu) N x3 q122.2
   else none)) else none) else none)) else none) else none)
   else (if v3 = (17 : Int32) then (if g_in (x3 + (1 : Int32)) L then (if g_in (x3 + (2 : Int32)) L then ((m_X10_couples N (xs (x3 + (1 : Int32)).toNatClampNeg) (xs (x3 + (2 : Int32)).toNatClampNeg) σ).bind fun q127 => (if g_in (x3 + (1 : Int32)) L then (if g_in (x3 + (2 : Int32)) L then ((m_X11_couples N (xs (x3 + (1 : Int32)).toNatClampNeg) (xs (x3 + (2 : Int32)).toNatClampNeg) q127.2).bind fun q130 => (if q127.1 = q130.1 then m_law_975 xs L (m_law_18 xs L N fu) N x3 q130.2
   else none)) else none) else none)) else none) else none)
   else (if v3 = (18 : Int32) then (if g_in (x3 + (1 : Int32)) L then ((m_X10_see (xs (x3 + (1 : Int32)).toNatClampNeg) σ).bind fun q134 => (if g_in (x3 + (1 : Int32)) L then ((m_X11_see (xs (x3 + (1 : Int32)).toNatClampNeg) q134.2).bind fun q136 => (if q134.1 = q136.1 then m_law_975 xs L (m_law_18 xs L N fu) N x3 q136.2
   else none)) else none)) else none)
   else (if v3 = (19 : Int32) then (if g_in (x3 + (1 : Int32)) L then ((m_X10_belief N (xs (x3 + (1 : Int32)).toNatClampNeg) σ).bind fun q140 => (if g_in (x3 + (1 : Int32)) L then ((m_X11_belief N (xs (x3 + (1 : Int32)).toNatClampNeg) q140.2).bind fun q142 => (if q140.1 = q142.1 then m_law_975 xs L (m_law_18 xs L N fu) N x3 q142.2
   else none)) else none)) else none)
   else (if v3 = (20 : Int32) then ((m_X10_likeliest N σ).bind fun q145 => ((m_X11_likeliest N q145.2).bind fun q146 => (if q145.1 = q146.1 then m_law_975 xs L (m_law_18 xs L N fu) N x3 q146.2
   else none)))
   else (if v3 = (21 : Int32) then (if g_in (x3 + (1 : Int32)) L then (if g_in (x3 + (2 : Int32)) L then ((m_X10_candles (xs (x3 + (1 : Int32)).toNatClampNeg) (xs (x3 + (2 : Int32)).toNatClampNeg) σ).bind fun q151 => (if g_in (x3 + (1 : Int32)) L then (if g_in (x3 + (2 : Int32)) L then ((m_X11_candles (xs (x3 + (1 : Int32)).toNatClampNeg) (xs (x3 + (2 : Int32)).toNatClampNeg) q151.2).bind fun q154 => (if q151.1 = q154.1 then m_law_975 xs L (m_law_18 xs L N fu) N x3 q154.2
   else none)) else none) else none)) else none) else none)
   else (if v3 = (22 : Int32) then (if g_in (x3 + (1 : Int32)) L then (if g_in (x3 + (2 : Int32)) L then ((m_X10_rows N (xs (x3 + (1 : Int32)).toNatClampNeg) (xs (x3 + (2 : Int32)).toNatClampNeg) σ).bind fun q159 => (if g_in (x3 + (1 : Int32)) L then (if g_in (x3 + (2 : Int32)) L then ((m_X11_rows N (xs (x3 + (1 : Int32)).toNatClampNeg) (xs (x3 + (2 : Int32)).toNatClampNeg) q159.2).bind fun q162 => (if q159.1 = q162.1 then m_law_975 xs L (m_law_18 xs L N fu) N x3 q162.2
   else none)) else none) else none)) else none) else none)
   else (if v3 = (23 : Int32) then (if g_in (x3 + (1 : Int32)) L then ((m_X10_sure N (xs (x3 + (1 : Int32)).toNatClampNeg) σ).bind fun q166 => (if g_in (x3 + (1 : Int32)) L then ((m_X11_sure N (xs (x3 + (1 : Int32)).toNatClampNeg) q166.2).bind fun q168 => (if q166.1 = q168.1 then m_law_975 xs L (m_law_18 xs L N fu) N x3 q168.2
   else none)) else none)) else none)
   else (if v3 = (24 : Int32) then (if g_in (x3 + (1 : Int32)) L then ((m_X10_write (xs (x3 + (1 : Int32)).toNatClampNeg) σ).bind fun q172 => (if g_in (x3 + (1 : Int32)) L then ((m_X11_write (xs (x3 + (1 : Int32)).toNatClampNeg) q172.2).bind fun q174 => (if q172.1 = q174.1 then m_law_975 xs L (m_law_18 xs L N fu) N x3 q174.2
   else none)) else none)) else none)
   else (if v3 = (25 : Int32) then ((m_X10_judge N σ).bind fun q177 => ((m_X11_judge N q177.2).bind fun q178 => (if q177.1 = q178.1 then m_law_975 xs L (m_law_18 xs L N fu) N x3 q178.2
   else none)))
   else (if v3 = (26 : Int32) then (if g_in (x3 + (1 : Int32)) L then ((m_X10_ageBy N (xs (x3 + (1 : Int32)).toNatClampNeg) σ).bind fun q182 => (if g_in (x3 + (1 : Int32)) L then ((m_X11_ageBy N (xs (x3 + (1 : Int32)).toNatClampNeg) q182.2).bind fun q184 => (if q182.1 = q184.1 then m_law_975 xs L (m_law_18 xs L N fu) N x3 q184.2
   else none)) else none)) else none)
   else (if v3 = (27 : Int32) then ((m_X10_tear σ).bind fun q187 => ((m_X11_tear N q187.2).bind fun q188 => (if q187.1 = q188.1 then m_law_975 xs L (m_law_18 xs L N fu) N x3 q188.2
   else none)))
   else (if v3 = (28 : Int32) then (if g_in (x3 + (1 : Int32)) L then ((m_X10_seed (xs (x3 + (1 : Int32)).toNatClampNeg) σ).bind fun q192 => (if g_in (x3 + (1 : Int32)) L then ((m_X11_seed (xs (x3 + (1 : Int32)).toNatClampNeg) q192.2).bind fun q194 => (if q192.1 = q194.1 then m_law_975 xs L (m_law_18 xs L N fu) N x3 q194.2
   else none)) else none)) else none)
   else (if v3 = (29 : Int32) then (if g_in (x3 + (1 : Int32)) L then ((m_X10_keep (xs (x3 + (1 : Int32)).toNatClampNeg) σ).bind fun q198 => (if g_in (x3 + (1 : Int32)) L then ((m_X11_keep N (xs (x3 + (1 : Int32)).toNatClampNeg) q198.2).bind fun q200 => (if q198.1 = q200.1 then m_law_975 xs L (m_law_18 xs L N fu) N x3 q200.2
   else none)) else none)) else none)
   else (if v3 = (30 : Int32) then (if g_in (x3 + (1 : Int32)) L then ((m_X10_goBack (xs (x3 + (1 : Int32)).toNatClampNeg) σ).bind fun q204 => (if g_in (x3 + (1 : Int32)) L then ((m_X11_goBack N (xs (x3 + (1 : Int32)).toNatClampNeg) q204.2).bind fun q206 => (if q204.1 = q206.1 then m_law_975 xs L (m_law_18 xs L N fu) N x3 q206.2
   else none)) else none)) else none)
   else m_law_975 xs L (m_law_18 xs L N fu) N x3 σ)))))))))))))))))))))))))))))))) else none))
def m_law (xs : Nat → Int32) (L N : Nat) : Option Unit := (g_lt (g_sA (fun _ _ => 0, fun _ _ => 0) 0 (fun _ => 0)) fun σ1 => ((m_X10_init_0 N σ1).bind fun σ2 => (g_lt (g_sA σ2 77 (fun _ => 0)) fun σ3 => ((m_X11_init_77 N σ3).bind fun σ4 => m_law_18 xs L N N (0 : Int32) σ4))))
