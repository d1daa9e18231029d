def G_L_law_18 (xs : Nat → Int32) (L : Nat) : Nat → Int32 → ST → Option (Int32 × ST)
  | 0, _, _ => none
  | n + 1, x3, S => (if ((Int32.ofNat L) - 6) < x3 then some (1, S) else (if inB x3 L = true then (if ((xs x3.toNatClampNeg) &&& 63) = 0 then (if inB (x3 + 1) L = true then (if inB (x3 + 2) L = true then ((G_X5_star_0 (xs (x3 + 1).toNatClampNeg) (xs (x3 + 2).toNatClampNeg) S).bind fun q6 => (if inB (x3 + 1) L = true then (if inB (x3 + 2) L = true then ((G_X6_star_51 (xs (x3 + 1).toNatClampNeg) (xs (x3 + 2).toNatClampNeg) q6.2).bind fun q9 => (if q6.1 = q9.1 then G_L_law_18 xs L n (x3 + 6) q9.2 else some (0, q9.2))) else none) else none)) else none) else none) else (if ((xs x3.toNatClampNeg) &&& 63) = 1 then (if inB (x3 + 1) L = true then (if inB (x3 + 2) L = true then ((G_X5_of_0 (xs (x3 + 1).toNatClampNeg) (xs (x3 + 2).toNatClampNeg) S).bind fun q13 => (if inB (x3 + 1) L = true then (if inB (x3 + 2) L = true then ((G_X6_of_51 (xs (x3 + 1).toNatClampNeg) (xs (x3 + 2).toNatClampNeg) q13.2).bind fun q16 => (if q13.1 = q16.1 then G_L_law_18 xs L n (x3 + 6) q16.2 else some (0, q16.2))) else none) else none)) else none) else none) else (if ((xs x3.toNatClampNeg) &&& 63) = 2 then (if inB (x3 + 1) L = true then (if inB (x3 + 2) L = true then (if inB (x3 + 3) L = true then ((G_X5_change_0 (xs (x3 + 1).toNatClampNeg) (xs (x3 + 2).toNatClampNeg) (xs (x3 + 3).toNatClampNeg) S).bind fun q21 => (if inB (x3 + 1) L = true then (if inB (x3 + 2) L = true then (if inB (x3 + 3) L = true then ((G_X6_change_51 (xs (x3 + 1).toNatClampNeg) (xs (x3 + 2).toNatClampNeg) (xs (x3 + 3).toNatClampNeg) q21.2).bind fun q25 => (if q21.1 = q25.1 then G_L_law_18 xs L n (x3 + 6) q25.2 else some (0, q25.2))) else none) else none) else none)) else none) else none) else none) else (if ((xs x3.toNatClampNeg) &&& 63) = 3 then (if inB (x3 + 1) L = true then (if inB (x3 + 2) L = true then (if inB (x3 + 3) L = true then ((G_X5_crew_0 (xs (x3 + 1).toNatClampNeg) (xs (x3 + 2).toNatClampNeg) (xs (x3 + 3).toNatClampNeg) S).bind fun q30 => (if inB (x3 + 1) L = true then (if inB (x3 + 2) L = true then (if inB (x3 + 3) L = true then ((G_X6_crew_51 (xs (x3 + 1).toNatClampNeg) (xs (x3 + 2).toNatClampNeg) (xs (x3 + 3).toNatClampNeg) q30.2).bind fun q34 => (if q30.1 = q34.1 then G_L_law_18 xs L n (x3 + 6) q34.2 else some (0, q34.2))) else none) else none) else none)) else none) else none) else none) else (if ((xs x3.toNatClampNeg) &&& 63) = 4 then (if inB (x3 + 1) L = true then (if inB (x3 + 2) L = true then ((G_X5_crewOf_0 (xs (x3 + 1).toNatClampNeg) (xs (x3 + 2).toNatClampNeg) S).bind fun q38 => (if inB (x3 + 1) L = true then (if inB (x3 + 2) L = true then ((G_X6_crewOf_51 (xs (x3 + 1).toNatClampNeg) (xs (x3 + 2).toNatClampNeg) q38.2).bind fun q41 => (if q38.1 = q41.1 then G_L_law_18 xs L n (x3 + 6) q41.2 else some (0, q41.2))) else none) else none)) else none) else none) else (if ((xs x3.toNatClampNeg) &&& 63) = 5 then (if inB (x3 + 1) L = true then (if inB (x3 + 2) L = true then ((G_X5_set_0 (xs (x3 + 1).toNatClampNeg) (xs (x3 + 2).toNatClampNeg) S).bind fun q45 => (if inB (x3 + 1) L = true then (if inB (x3 + 2) L = true then ((G_X6_set_51 (xs (x3 + 1).toNatClampNeg) (xs (x3 + 2).toNatClampNeg) q45.2).bind fun q48 => (if q45.1 = q48.1 then G_L_law_18 xs L n (x3 + 6) q48.2 else some (0, q48.2))) else none) else none)) else none) else none) else (if ((xs x3.toNatClampNeg) &&& 63) = 6 then (if inB (x3 + 1) L = true then (if inB (x3 + 2) L = true then ((G_X5_apart_0 (xs (x3 + 1).toNatClampNeg) (xs (x3 + 2).toNatClampNeg) S).bind fun q52 => (if inB (x3 + 1) L = true then (if inB (x3 + 2) L = true then ((G_X6_apart_51 (xs (x3 + 1).toNatClampNeg) (xs (x3 + 2).toNatClampNeg) q52.2).bind fun q55 => (if q52.1 = q55.1 then G_L_law_18 xs L n (x3 + 6) q55.2 else some (0, q55.2))) else none) else none)) else none) else none) else (if ((xs x3.toNatClampNeg) &&& 63) = 7 then (if inB (x3 + 1) L = true then ((G_X5_go_0 (xs (x3 + 1).toNatClampNeg) S).bind fun q58 => (if inB (x3 + 1) L = true then ((G_X6_go_51 (xs (x3 + 1).toNatClampNeg) q58.2).bind fun q60 => (if q58.1 = q60.1 then G_L_law_18 xs L n (x3 + 6) q60.2 else some (0, q60.2))) else none)) else none) else (if ((xs x3.toNatClampNeg) &&& 63) = 8 then (if inB (x3 + 1) L = true then ((G_X5_now_0 (xs (x3 + 1).toNatClampNeg) S).bind fun q63 => (if inB (x3 + 1) L = true then ((G_X6_now_51 (xs (x3 + 1).toNatClampNeg) q63.2).bind fun q65 => (if q63.1 = q65.1 then G_L_law_18 xs L n (x3 + 6) q65.2 else some (0, q65.2))) else none)) else none) else (if ((xs x3.toNatClampNeg) &&& 63) = 9 then (if inB (x3 + 1) L = true then (if inB (x3 + 2) L = true then ((G_X5_mends_0 (xs (x3 + 1).toNatClampNeg) (xs (x3 + 2).toNatClampNeg) S).bind fun q69 => (if inB (x3 + 1) L = true then (if inB (x3 + 2) L = true then ((G_X6_mends_51 (xs (x3 + 1).toNatClampNeg) (xs (x3 + 2).toNatClampNeg) q69.2).bind fun q72 => (if q69.1 = q72.1 then G_L_law_18 xs L n (x3 + 6) q72.2 else some (0, q72.2))) else none) else none)) else none) else none) else (if ((xs x3.toNatClampNeg) &&& 63) = 10 then (if inB (x3 + 1) L = true then (if inB (x3 + 2) L = true then ((G_X5_ahead_0 (xs (x3 + 1).toNatClampNeg) (xs (x3 + 2).toNatClampNeg) S).bind fun q76 => (if inB (x3 + 1) L = true then (if inB (x3 + 2) L = true then ((G_X6_ahead_51 (xs (x3 + 1).toNatClampNeg) (xs (x3 + 2).toNatClampNeg) q76.2).bind fun q79 => (if q76.1 = q79.1 then G_L_law_18 xs L n (x3 + 6) q79.2 else some (0, q79.2))) else none) else none)) else none) else none) else (if ((xs x3.toNatClampNeg) &&& 63) = 11 then (if inB (x3 + 1) L = true then ((G_X5_lasts_0 (xs (x3 + 1).toNatClampNeg) S).bind fun q82 => (if inB (x3 + 1) L = true then ((G_X6_lasts_51 (xs (x3 + 1).toNatClampNeg) q82.2).bind fun q84 => (if q82.1 = q84.1 then G_L_law_18 xs L n (x3 + 6) q84.2 else some (0, q84.2))) else none)) else none) else (if ((xs x3.toNatClampNeg) &&& 63) = 12 then (if inB (x3 + 1) L = true then ((G_X5_shine_0 (xs (x3 + 1).toNatClampNeg) S).bind fun q87 => (if inB (x3 + 1) L = true then ((G_X6_shine_51 (xs (x3 + 1).toNatClampNeg) q87.2).bind fun q89 => (if q87.1 = q89.1 then G_L_law_18 xs L n (x3 + 6) q89.2 else some (0, q89.2))) else none)) else none) else (if ((xs x3.toNatClampNeg) &&& 63) = 13 then (if inB (x3 + 1) L = true then ((G_X5_dark_0 (xs (x3 + 1).toNatClampNeg) S).bind fun q92 => (if inB (x3 + 1) L = true then ((G_X6_dark_51 (xs (x3 + 1).toNatClampNeg) q92.2).bind fun q94 => (if q92.1 = q94.1 then G_L_law_18 xs L n (x3 + 6) q94.2 else some (0, q94.2))) else none)) else none) else (if ((xs x3.toNatClampNeg) &&& 63) = 14 then (if inB (x3 + 1) L = true then ((G_X5_kindFor_0 (xs (x3 + 1).toNatClampNeg) S).bind fun q97 => (if inB (x3 + 1) L = true then ((G_X6_kindFor_51 (xs (x3 + 1).toNatClampNeg) q97.2).bind fun q99 => (if q97.1 = q99.1 then G_L_law_18 xs L n (x3 + 6) q99.2 else some (0, q99.2))) else none)) else none) else (if ((xs x3.toNatClampNeg) &&& 63) = 15 then (if inB (x3 + 1) L = true then (if inB (x3 + 2) L = true then ((G_X5_dustFor_0 (xs (x3 + 1).toNatClampNeg) (xs (x3 + 2).toNatClampNeg) S).bind fun q103 => (if inB (x3 + 1) L = true then (if inB (x3 + 2) L = true then ((G_X6_dustFor_51 (xs (x3 + 1).toNatClampNeg) (xs (x3 + 2).toNatClampNeg) q103.2).bind fun q106 => (if q103.1 = q106.1 then G_L_law_18 xs L n (x3 + 6) q106.2 else some (0, q106.2))) else none) else none)) else none) else none) else (if ((xs x3.toNatClampNeg) &&& 63) = 16 then (if inB (x3 + 1) L = true then ((G_X5_uses_0 (xs (x3 + 1).toNatClampNeg) S).bind fun q109 => (if inB (x3 + 1) L = true then ((G_X6_uses_51 (xs (x3 + 1).toNatClampNeg) q109.2).bind fun q111 => (if q109.1 = q111.1 then G_L_law_18 xs L n (x3 + 6) q111.2 else some (0, q111.2))) else none)) else none) else (if ((xs x3.toNatClampNeg) &&& 63) = 17 then (if inB (x3 + 1) L = true then (if inB (x3 + 2) L = true then ((G_X5_round_0 (xs (x3 + 1).toNatClampNeg) (xs (x3 + 2).toNatClampNeg) S).bind fun q115 => (if inB (x3 + 1) L = true then (if inB (x3 + 2) L = true then ((G_X6_round_51 (xs (x3 + 1).toNatClampNeg) (xs (x3 + 2).toNatClampNeg) q115.2).bind fun q118 => (if q115.1 = q118.1 then G_L_law_18 xs L n (x3 + 6) q118.2 else some (0, q118.2))) else none) else none)) else none) else none) else (if ((xs x3.toNatClampNeg) &&& 63) = 18 then (if inB (x3 + 1) L = true then ((G_X5_best_0 (xs (x3 + 1).toNatClampNeg) S).bind fun q121 => (if inB (x3 + 1) L = true then ((G_X6_best_51 (xs (x3 + 1).toNatClampNeg) q121.2).bind fun q123 => (if q121.1 = q123.1 then G_L_law_18 xs L n (x3 + 6) q123.2 else some (0, q123.2))) else none)) else none) else (if ((xs x3.toNatClampNeg) &&& 63) = 19 then (if inB (x3 + 1) L = true then ((G_X5_bestWorth_0 (xs (x3 + 1).toNatClampNeg) S).bind fun q126 => (if inB (x3 + 1) L = true then ((G_X6_bestWorth_51 (xs (x3 + 1).toNatClampNeg) q126.2).bind fun q128 => (if q126.1 = q128.1 then G_L_law_18 xs L n (x3 + 6) q128.2 else some (0, q128.2))) else none)) else none) else (if ((xs x3.toNatClampNeg) &&& 63) = 20 then (if inB (x3 + 1) L = true then (if inB (x3 + 2) L = true then ((G_X5_from_0 (xs (x3 + 1).toNatClampNeg) (xs (x3 + 2).toNatClampNeg) S).bind fun q132 => (if inB (x3 + 1) L = true then (if inB (x3 + 2) L = true then ((G_X6_from_51 (xs (x3 + 1).toNatClampNeg) (xs (x3 + 2).toNatClampNeg) q132.2).bind fun q135 => (if q132.1 = q135.1 then G_L_law_18 xs L n (x3 + 6) q135.2 else some (0, q135.2))) else none) else none)) else none) else none) else (if ((xs x3.toNatClampNeg) &&& 63) = 21 then (if inB (x3 + 1) L = true then (if inB (x3 + 2) L = true then (if inB (x3 + 3) L = true then ((G_X5_share_0 (xs (x3 + 1).toNatClampNeg) (xs (x3 + 2).toNatClampNeg) (xs (x3 + 3).toNatClampNeg) S).bind fun q140 => (if inB (x3 + 1) L = true then (if inB (x3 + 2) L = true then (if inB (x3 + 3) L = true then ((G_X6_share_51 (xs (x3 + 1).toNatClampNeg) (xs (x3 + 2).toNatClampNeg) (xs (x3 + 3).toNatClampNeg) q140.2).bind fun q144 => (if q140.1 = q144.1 then G_L_law_18 xs L n (x3 + 6) q144.2 else some (0, q144.2))) else none) else none) else none)) else none) else none) else none) else (if ((xs x3.toNatClampNeg) &&& 63) = 22 then (if inB (x3 + 1) L = true then (if inB (x3 + 2) L = true then (if inB (x3 + 3) L = true then ((G_X5_longer_0 (xs (x3 + 1).toNatClampNeg) (xs (x3 + 2).toNatClampNeg) (xs (x3 + 3).toNatClampNeg) S).bind fun q149 => (if inB (x3 + 1) L = true then (if inB (x3 + 2) L = true then (if inB (x3 + 3) L = true then ((G_X6_longer_51 (xs (x3 + 1).toNatClampNeg) (xs (x3 + 2).toNatClampNeg) (xs (x3 + 3).toNatClampNeg) q149.2).bind fun q153 => (if q149.1 = q153.1 then G_L_law_18 xs L n (x3 + 6) q153.2 else some (0, q153.2))) else none) else none) else none)) else none) else none) else none) else (if ((xs x3.toNatClampNeg) &&& 63) = 23 then (if inB (x3 + 1) L = true then ((G_X5_sign_0 (xs (x3 + 1).toNatClampNeg) S).bind fun q156 => (if inB (x3 + 1) L = true then ((G_X6_sign_51 (xs (x3 + 1).toNatClampNeg) q156.2).bind fun q158 => (if q156.1 = q158.1 then G_L_law_18 xs L n (x3 + 6) q158.2 else some (0, q158.2))) else none)) else none) else (if ((xs x3.toNatClampNeg) &&& 63) = 24 then (if inB (x3 + 1) L = true then ((G_X5_signOf_0 (xs (x3 + 1).toNatClampNeg) S).bind fun q161 => (if inB (x3 + 1) L = true then ((G_X6_signOf_51 (xs (x3 + 1).toNatClampNeg) q161.2).bind fun q163 => (if q161.1 = q163.1 then G_L_law_18 xs L n (x3 + 6) q163.2 else some (0, q163.2))) else none)) else none) else (if ((xs x3.toNatClampNeg) &&& 63) = 25 then (if inB (x3 + 1) L = true then ((G_X5_may_0 (xs (x3 + 1).toNatClampNeg) S).bind fun q166 => (if inB (x3 + 1) L = true then ((G_X6_may_51 (xs (x3 + 1).toNatClampNeg) q166.2).bind fun q168 => (if q166.1 = q168.1 then G_L_law_18 xs L n (x3 + 6) q168.2 else some (0, q168.2))) else none)) else none) else (if ((xs x3.toNatClampNeg) &&& 63) = 26 then (if inB (x3 + 1) L = true then ((G_X5_tells_0 (xs (x3 + 1).toNatClampNeg) S).bind fun q171 => (if inB (x3 + 1) L = true then ((G_X6_tells_51 (xs (x3 + 1).toNatClampNeg) q171.2).bind fun q173 => (if q171.1 = q173.1 then G_L_law_18 xs L n (x3 + 6) q173.2 else some (0, q173.2))) else none)) else none) else (if ((xs x3.toNatClampNeg) &&& 63) = 27 then ((G_X5_told_0  S).bind fun q175 => ((G_X6_told_51  q175.2).bind fun q176 => (if q175.1 = q176.1 then G_L_law_18 xs L n (x3 + 6) q176.2 else some (0, q176.2)))) else (if ((xs x3.toNatClampNeg) &&& 63) = 28 then (if inB (x3 + 1) L = true then ((G_X5_steers_0 (xs (x3 + 1).toNatClampNeg) S).bind fun q179 => (if inB (x3 + 1) L = true then ((G_X6_steers_51 (xs (x3 + 1).toNatClampNeg) q179.2).bind fun q181 => (if q179.1 = q181.1 then G_L_law_18 xs L n (x3 + 6) q181.2 else some (0, q181.2))) else none)) else none) else (if ((xs x3.toNatClampNeg) &&& 63) = 29 then (if inB (x3 + 1) L = true then ((G_X5_sees_0 (xs (x3 + 1).toNatClampNeg) S).bind fun q184 => (if inB (x3 + 1) L = true then ((G_X6_sees_51 (xs (x3 + 1).toNatClampNeg) q184.2).bind fun q186 => (if q184.1 = q186.1 then G_L_law_18 xs L n (x3 + 6) q186.2 else some (0, q186.2))) else none)) else none) else (if ((xs x3.toNatClampNeg) &&& 63) = 30 then (if inB (x3 + 1) L = true then ((G_X5_which_0 (xs (x3 + 1).toNatClampNeg) S).bind fun q189 => (if inB (x3 + 1) L = true then ((G_X6_which_51 (xs (x3 + 1).toNatClampNeg) q189.2).bind fun q191 => (if q189.1 = q191.1 then G_L_law_18 xs L n (x3 + 6) q191.2 else some (0, q191.2))) else none)) else none) else (if ((xs x3.toNatClampNeg) &&& 63) = 31 then (if inB (x3 + 1) L = true then (if inB (x3 + 2) L = true then ((G_X5_kinds_0 (xs (x3 + 1).toNatClampNeg) (xs (x3 + 2).toNatClampNeg) S).bind fun q195 => (if inB (x3 + 1) L = true then (if inB (x3 + 2) L = true then ((G_X6_kinds_51 (xs (x3 + 1).toNatClampNeg) (xs (x3 + 2).toNatClampNeg) q195.2).bind fun q198 => (if q195.1 = q198.1 then G_L_law_18 xs L n (x3 + 6) q198.2 else some (0, q198.2))) else none) else none)) else none) else none) else (if ((xs x3.toNatClampNeg) &&& 63) = 32 then (if inB (x3 + 1) L = true then ((G_X5_drops_0 (xs (x3 + 1).toNatClampNeg) S).bind fun q201 => (if inB (x3 + 1) L = true then ((G_X6_drops_51 (xs (x3 + 1).toNatClampNeg) q201.2).bind fun q203 => (if q201.1 = q203.1 then G_L_law_18 xs L n (x3 + 6) q203.2 else some (0, q203.2))) else none)) else none) else (if ((xs x3.toNatClampNeg) &&& 63) = 33 then (if inB (x3 + 1) L = true then (if inB (x3 + 2) L = true then ((G_X5_odds_0 (xs (x3 + 1).toNatClampNeg) (xs (x3 + 2).toNatClampNeg) S).bind fun q207 => (if inB (x3 + 1) L = true then (if inB (x3 + 2) L = true then ((G_X6_odds_51 (xs (x3 + 1).toNatClampNeg) (xs (x3 + 2).toNatClampNeg) q207.2).bind fun q210 => (if (lg_cmp q207.1 q210.1) = 0 then G_L_law_18 xs L n (x3 + 6) q210.2 else some (0, q210.2))) else none) else none)) else none) else none) else (if ((xs x3.toNatClampNeg) &&& 63) = 34 then (if inB (x3 + 1) L = true then ((G_X5_seed_0 (xs (x3 + 1).toNatClampNeg) S).bind fun q213 => (if inB (x3 + 1) L = true then ((G_X6_seed_51 (xs (x3 + 1).toNatClampNeg) q213.2).bind fun q215 => (if q213.1 = q215.1 then G_L_law_18 xs L n (x3 + 6) q215.2 else some (0, q215.2))) else none)) else none) else (if ((xs x3.toNatClampNeg) &&& 63) = 35 then (if inB (x3 + 1) L = true then (if inB (x3 + 2) L = true then ((G_X5_feed_0 (xs (x3 + 1).toNatClampNeg) (xs (x3 + 2).toNatClampNeg) S).bind fun q219 => (if inB (x3 + 1) L = true then (if inB (x3 + 2) L = true then ((G_X6_feed_51 (xs (x3 + 1).toNatClampNeg) (xs (x3 + 2).toNatClampNeg) q219.2).bind fun q222 => (if q219.1 = q222.1 then G_L_law_18 xs L n (x3 + 6) q222.2 else some (0, q222.2))) else none) else none)) else none) else none) else (if ((xs x3.toNatClampNeg) &&& 63) = 36 then ((G_X5_wipe_0  S).bind fun q224 => ((G_X6_wipe_51  q224.2).bind fun q225 => (if q224.1 = q225.1 then G_L_law_18 xs L n (x3 + 6) q225.2 else some (0, q225.2)))) else (if ((xs x3.toNatClampNeg) &&& 63) = 37 then ((G_X5_text_0  S).bind fun q227 => ((G_X6_text_51  q227.2).bind fun q228 => (if q227.1 = q228.1 then G_L_law_18 xs L n (x3 + 6) q228.2 else some (0, q228.2)))) else (if ((xs x3.toNatClampNeg) &&& 63) = 38 then (if inB (x3 + 1) L = true then (if inB (x3 + 2) L = true then ((G_X5_hold_0 (xs (x3 + 1).toNatClampNeg) (xs (x3 + 2).toNatClampNeg) S).bind fun q232 => (if inB (x3 + 1) L = true then (if inB (x3 + 2) L = true then ((G_X6_hold_51 (xs (x3 + 1).toNatClampNeg) (xs (x3 + 2).toNatClampNeg) q232.2).bind fun q235 => (if q232.1 = q235.1 then G_L_law_18 xs L n (x3 + 6) q235.2 else some (0, q235.2))) else none) else none)) else none) else none) else (if ((xs x3.toNatClampNeg) &&& 63) = 39 then (if inB (x3 + 1) L = true then (if inB (x3 + 2) L = true then ((G_X5_as_0 (xs (x3 + 1).toNatClampNeg) (xs (x3 + 2).toNatClampNeg) S).bind fun q239 => (if inB (x3 + 1) L = true then (if inB (x3 + 2) L = true then ((G_X6_as_51 (xs (x3 + 1).toNatClampNeg) (xs (x3 + 2).toNatClampNeg) q239.2).bind fun q242 => (if q239.1 = q242.1 then G_L_law_18 xs L n (x3 + 6) q242.2 else some (0, q242.2))) else none) else none)) else none) else none) else (if ((xs x3.toNatClampNeg) &&& 63) = 40 then (if inB (x3 + 1) L = true then (if inB (x3 + 2) L = true then (if inB (x3 + 3) L = true then ((G_X5_sheet_0 (xs (x3 + 1).toNatClampNeg) (xs (x3 + 2).toNatClampNeg) (xs (x3 + 3).toNatClampNeg) S).bind fun q247 => (if inB (x3 + 1) L = true then (if inB (x3 + 2) L = true then (if inB (x3 + 3) L = true then ((G_X6_sheet_51 (xs (x3 + 1).toNatClampNeg) (xs (x3 + 2).toNatClampNeg) (xs (x3 + 3).toNatClampNeg) q247.2).bind fun q251 => (if q247.1 = q251.1 then G_L_law_18 xs L n (x3 + 6) q251.2 else some (0, q251.2))) else none) else none) else none)) else none) else none) else none) else (if ((xs x3.toNatClampNeg) &&& 63) = 41 then (if inB (x3 + 1) L = true then (if inB (x3 + 2) L = true then (if inB (x3 + 3) L = true then ((G_X5_write_0 (xs (x3 + 1).toNatClampNeg) (xs (x3 + 2).toNatClampNeg) (xs (x3 + 3).toNatClampNeg) S).bind fun q256 => (if inB (x3 + 1) L = true then (if inB (x3 + 2) L = true then (if inB (x3 + 3) L = true then ((G_X6_write_51 (xs (x3 + 1).toNatClampNeg) (xs (x3 + 2).toNatClampNeg) (xs (x3 + 3).toNatClampNeg) q256.2).bind fun q260 => (if q256.1 = q260.1 then G_L_law_18 xs L n (x3 + 6) q260.2 else some (0, q260.2))) else none) else none) else none)) else none) else none) else none) else (if ((xs x3.toNatClampNeg) &&& 63) = 42 then (if inB (x3 + 1) L = true then (if inB (x3 + 2) L = true then (if inB (x3 + 3) L = true then (if inB (x3 + 4) L = true then (if inB (x3 + 5) L = true then ((G_X5_copy_0 (xs (x3 + 1).toNatClampNeg) (xs (x3 + 2).toNatClampNeg) (xs (x3 + 3).toNatClampNeg) (xs (x3 + 4).toNatClampNeg) (xs (x3 + 5).toNatClampNeg) S).bind fun q267 => (if inB (x3 + 1) L = true then (if inB (x3 + 2) L = true then (if inB (x3 + 3) L = true then (if inB (x3 + 4) L = true then (if inB (x3 + 5) L = true then ((G_X6_copy_51 (xs (x3 + 1).toNatClampNeg) (xs (x3 + 2).toNatClampNeg) (xs (x3 + 3).toNatClampNeg) (xs (x3 + 4).toNatClampNeg) (xs (x3 + 5).toNatClampNeg) q267.2).bind fun q273 => (if q267.1 = q273.1 then G_L_law_18 xs L n (x3 + 6) q273.2 else some (0, q273.2))) else none) else none) else none) else none) else none)) else none) else none) else none) else none) else none) else (if ((xs x3.toNatClampNeg) &&& 63) = 43 then (if inB (x3 + 1) L = true then ((G_X5_load_0 (xs (x3 + 1).toNatClampNeg) S).bind fun q276 => (if inB (x3 + 1) L = true then ((G_X6_load_51 (xs (x3 + 1).toNatClampNeg) q276.2).bind fun q278 => (if q276.1 = q278.1 then G_L_law_18 xs L n (x3 + 6) q278.2 else some (0, q278.2))) else none)) else none) else (if ((xs x3.toNatClampNeg) &&& 63) = 44 then (if inB (x3 + 1) L = true then ((G_X5_judge_0 (xs (x3 + 1).toNatClampNeg) S).bind fun q281 => (if inB (x3 + 1) L = true then ((G_X6_judge_51 (xs (x3 + 1).toNatClampNeg) q281.2).bind fun q283 => (if q281.1 = q283.1 then G_L_law_18 xs L n (x3 + 6) q283.2 else some (0, q283.2))) else none)) else none) else (if ((xs x3.toNatClampNeg) &&& 63) = 45 then ((G_X5_image_0  S).bind fun q285 => ((G_X6_image_51  q285.2).bind fun q286 => (if q285.1 = q286.1 then G_L_law_18 xs L n (x3 + 6) q286.2 else some (0, q286.2)))) else (if ((xs x3.toNatClampNeg) &&& 63) = 46 then ((G_X5_undo_0  S).bind fun q288 => ((G_X6_undo_51  q288.2).bind fun q289 => (if q288.1 = q289.1 then G_L_law_18 xs L n (x3 + 6) q289.2 else some (0, q289.2)))) else (if ((xs x3.toNatClampNeg) &&& 63) = 47 then ((G_X5_tear_0  S).bind fun q291 => ((G_X6_tear_51  q291.2).bind fun q292 => (if q291.1 = q292.1 then G_L_law_18 xs L n (x3 + 6) q292.2 else some (0, q292.2)))) else (if ((xs x3.toNatClampNeg) &&& 63) = 48 then (if inB (x3 + 1) L = true then ((G_X5_count_0 (xs (x3 + 1).toNatClampNeg) S).bind fun q295 => (if inB (x3 + 1) L = true then ((G_X6_count_51 (xs (x3 + 1).toNatClampNeg) q295.2).bind fun q297 => (if q295.1 = q297.1 then G_L_law_18 xs L n (x3 + 6) q297.2 else some (0, q297.2))) else none)) else none) else (if ((xs x3.toNatClampNeg) &&& 63) = 49 then (if inB (x3 + 1) L = true then ((G_X5_status_0 (xs (x3 + 1).toNatClampNeg) S).bind fun q300 => (if inB (x3 + 1) L = true then ((G_X6_status_51 (xs (x3 + 1).toNatClampNeg) q300.2).bind fun q302 => (if q300.1 = q302.1 then G_L_law_18 xs L n (x3 + 6) q302.2 else some (0, q302.2))) else none)) else none) else G_L_law_18 xs L n (x3 + 6) S)))))))))))))))))))))))))))))))))))))))))))))))))) else none))
set_option maxHeartbeats 4000000 in
set_option maxRecDepth 100000 in
theorem T_L_law_18 (E : EV) {xb L : Nat} {xs : Nat → Int32} (hxs : (xb, L, xs) ∈ (eM E, 4, tabF) :: eO E) : ∀ (n : Nat) (x3 : Int32) (S : ST) (w : (Int32 × ST)), G_L_law_18 xs L n x3 S = some w → SD E mL_law 18 [(0, .ref xb), (1, .ref (eB E + 0)), (2, .ref (eB E + 51)), (3, .int x3)] [] S (some (.int w.1)) w.2 := by
  intro n
  induction n with
  | zero =>
    intro x3 S w h
    cases h
  | succ n ih =>
    intro x3 S w h
    unfold G_L_law_18 at h
    refine s_iload_n (q := 19) dL_law_18 rfl rfl 3 rfl ?_
    refine s_aload_n (q := 20) dL_law_19 rfl rfl 0 rfl ?_
    refine s_oldlen (q := 21) dL_law_20 rfl hxs rfl ?_
    refine s_bipush (q := 23) (v := 6) dL_law_21 rfl rfl ?_
    refine s_isub (q := 24) dL_law_23 rfl ?_
    refine s_icmp_gt (q := 27) (tgt := 1655) dL_law_24 rfl rfl (fun hb1 => ?_) (fun hb1 => ?_)
    · rw [if_pos hb1] at h
      refine s_iconst (q := 1656) (v := 1) dL_law_1655 rfl rfl ?_
      obtain rfl := Option.some.inj h
      exact t_zret dL_law_1656 rfl rfl rfl
    · rw [if_neg hb1] at h
      refine s_aload_n (q := 28) dL_law_27 rfl rfl 0 rfl ?_
      refine s_iload_n (q := 29) dL_law_28 rfl rfl 3 rfl ?_
      obtain ⟨hg2, h⟩ := chk_some h
      refine s_oldld (q := 30) dL_law_29 rfl hxs (inB_in hg2) ?_
      refine s_bipush (q := 32) (v := 63) dL_law_30 rfl rfl ?_
      refine s_iand (q := 33) dL_law_32 rfl ?_
      by_cases hs3_0 : ((xs x3.toNatClampNeg) &&& 63) = 0
      · rw [if_pos hs3_0] at h
        refine s_tableIn (off := 215) (tgt := 248) dL_law_33 (by rw [hs3_0]; decide) (by rw [hs3_0]; decide) (by rw [hs3_0]; rfl) rfl ?_
        refine s_aload_n (q := 249) dL_law_248 rfl rfl 1 rfl ?_
        refine s_aload_n (q := 250) dL_law_249 rfl rfl 0 rfl ?_
        refine s_iload_n (q := 251) dL_law_250 rfl rfl 3 rfl ?_
        refine s_iconst (q := 252) (v := 1) dL_law_251 rfl rfl ?_
        refine s_iadd (q := 253) dL_law_252 rfl ?_
        obtain ⟨hg4, h⟩ := chk_some h
        refine s_oldld (q := 254) dL_law_253 rfl hxs (inB_in hg4) ?_
        refine s_aload_n (q := 255) dL_law_254 rfl rfl 0 rfl ?_
        refine s_iload_n (q := 256) dL_law_255 rfl rfl 3 rfl ?_
        refine s_iconst (q := 257) (v := 2) dL_law_256 rfl rfl ?_
        refine s_iadd (q := 258) dL_law_257 rfl ?_
        obtain ⟨hg5, h⟩ := chk_some h
        refine s_oldld (q := 259) dL_law_258 rfl hxs (inB_in hg5) ?_
        obtain ⟨q6, hc6, h⟩ := bnd h
        try dsimp only at h
        refine t_callV (q := 262) (N := mX5_star) (a := eB E + 0) [.int (xs (x3 + 1).toNatClampNeg), .int (xs (x3 + 2).toNatClampNeg)] dL_law_259 rfl nkX5_star vkX5_star lL_13 ⟨Nat.le_of_ble_eq_true rfl, Nat.le_of_ble_eq_true rfl⟩ (rc_obj (k := 0) rfl rfl) rfl rfl (Nat.le_of_ble_eq_true rfl) (Nat.le_of_ble_eq_true rfl) (T_X5_star_0 E _ _ hc6) ?_
        refine s_aload_n (q := 263) dL_law_262 rfl rfl 2 rfl ?_
        refine s_aload_n (q := 264) dL_law_263 rfl rfl 0 rfl ?_
        refine s_iload_n (q := 265) dL_law_264 rfl rfl 3 rfl ?_
        refine s_iconst (q := 266) (v := 1) dL_law_265 rfl rfl ?_
        refine s_iadd (q := 267) dL_law_266 rfl ?_
        obtain ⟨hg7, h⟩ := chk_some h
        refine s_oldld (q := 268) dL_law_267 rfl hxs (inB_in hg7) ?_
        refine s_aload_n (q := 269) dL_law_268 rfl rfl 0 rfl ?_
        refine s_iload_n (q := 270) dL_law_269 rfl rfl 3 rfl ?_
        refine s_iconst (q := 271) (v := 2) dL_law_270 rfl rfl ?_
        refine s_iadd (q := 272) dL_law_271 rfl ?_
        obtain ⟨hg8, h⟩ := chk_some h
        refine s_oldld (q := 273) dL_law_272 rfl hxs (inB_in hg8) ?_
        obtain ⟨q9, hc9, h⟩ := bnd h
        try dsimp only at h
        refine t_callV (q := 276) (N := mX6_star) (a := eB E + 51) [.int (xs (x3 + 1).toNatClampNeg), .int (xs (x3 + 2).toNatClampNeg)] dL_law_273 rfl nkX6_star vkX6_star lL_17 ⟨Nat.le_of_ble_eq_true rfl, Nat.le_of_ble_eq_true rfl⟩ (rc_obj (k := 51) rfl rfl) rfl rfl (Nat.le_of_ble_eq_true rfl) (Nat.le_of_ble_eq_true rfl) (T_X6_star_51 E _ _ hc9) ?_
        refine s_icmp_eq (q := 279) (tgt := 1649) dL_law_276 rfl rfl (fun hb10 => ?_) (fun hb10 => ?_)
        · rw [if_pos hb10] at h
          refine s_iinc (q := 1652) (j := 3) (v := (x3 + 6)) (lv' := [(3, .int (x3 + 6)), (0, .ref xb), (1, .ref (eB E + 0)), (2, .ref (eB E + 51))]) dL_law_1649 rfl rfl rfl (Nat.le_of_ble_eq_true rfl) rfl ?_
          refine s_goto (tgt := 18) dL_law_1652 rfl ?_
          exact t_sub [1, 2, 3, 0] rfl (ih _ _ _ h)
        · rw [if_neg hb10] at h
          refine s_iconst (q := 280) (v := 0) dL_law_279 rfl rfl ?_
          obtain rfl := Option.some.inj h
          exact t_zret dL_law_280 rfl rfl rfl
      rw [if_neg hs3_0] at h
      by_cases hs3_1 : ((xs x3.toNatClampNeg) &&& 63) = 1
      · rw [if_pos hs3_1] at h
        refine s_tableIn (off := 248) (tgt := 281) dL_law_33 (by rw [hs3_1]; decide) (by rw [hs3_1]; decide) (by rw [hs3_1]; rfl) rfl ?_
        refine s_aload_n (q := 282) dL_law_281 rfl rfl 1 rfl ?_
        refine s_aload_n (q := 283) dL_law_282 rfl rfl 0 rfl ?_
        refine s_iload_n (q := 284) dL_law_283 rfl rfl 3 rfl ?_
        refine s_iconst (q := 285) (v := 1) dL_law_284 rfl rfl ?_
        refine s_iadd (q := 286) dL_law_285 rfl ?_
        obtain ⟨hg11, h⟩ := chk_some h
        refine s_oldld (q := 287) dL_law_286 rfl hxs (inB_in hg11) ?_
        refine s_aload_n (q := 288) dL_law_287 rfl rfl 0 rfl ?_
        refine s_iload_n (q := 289) dL_law_288 rfl rfl 3 rfl ?_
        refine s_iconst (q := 290) (v := 2) dL_law_289 rfl rfl ?_
        refine s_iadd (q := 291) dL_law_290 rfl ?_
        obtain ⟨hg12, h⟩ := chk_some h
        refine s_oldld (q := 292) dL_law_291 rfl hxs (inB_in hg12) ?_
        obtain ⟨q13, hc13, h⟩ := bnd h
        try dsimp only at h
        refine t_callV (q := 295) (N := mX5_of) (a := eB E + 0) [.int (xs (x3 + 1).toNatClampNeg), .int (xs (x3 + 2).toNatClampNeg)] dL_law_292 rfl nkX5_of vkX5_of lL_18 ⟨Nat.le_of_ble_eq_true rfl, Nat.le_of_ble_eq_true rfl⟩ (rc_obj (k := 0) rfl rfl) rfl rfl (Nat.le_of_ble_eq_true rfl) (Nat.le_of_ble_eq_true rfl) (T_X5_of_0 E _ _ hc13) ?_
        refine s_aload_n (q := 296) dL_law_295 rfl rfl 2 rfl ?_
        refine s_aload_n (q := 297) dL_law_296 rfl rfl 0 rfl ?_
        refine s_iload_n (q := 298) dL_law_297 rfl rfl 3 rfl ?_
        refine s_iconst (q := 299) (v := 1) dL_law_298 rfl rfl ?_
        refine s_iadd (q := 300) dL_law_299 rfl ?_
        obtain ⟨hg14, h⟩ := chk_some h
        refine s_oldld (q := 301) dL_law_300 rfl hxs (inB_in hg14) ?_
        refine s_aload_n (q := 302) dL_law_301 rfl rfl 0 rfl ?_
        refine s_iload_n (q := 303) dL_law_302 rfl rfl 3 rfl ?_
        refine s_iconst (q := 304) (v := 2) dL_law_303 rfl rfl ?_
        refine s_iadd (q := 305) dL_law_304 rfl ?_
        obtain ⟨hg15, h⟩ := chk_some h
        refine s_oldld (q := 306) dL_law_305 rfl hxs (inB_in hg15) ?_
        obtain ⟨q16, hc16, h⟩ := bnd h
        try dsimp only at h
        refine t_callV (q := 309) (N := mX6_of) (a := eB E + 51) [.int (xs (x3 + 1).toNatClampNeg), .int (xs (x3 + 2).toNatClampNeg)] dL_law_306 rfl nkX6_of vkX6_of lL_21 ⟨Nat.le_of_ble_eq_true rfl, Nat.le_of_ble_eq_true rfl⟩ (rc_obj (k := 51) rfl rfl) rfl rfl (Nat.le_of_ble_eq_true rfl) (Nat.le_of_ble_eq_true rfl) (T_X6_of_51 E _ _ hc16) ?_
        refine s_icmp_eq (q := 312) (tgt := 1649) dL_law_309 rfl rfl (fun hb17 => ?_) (fun hb17 => ?_)
        · rw [if_pos hb17] at h
          refine s_iinc (q := 1652) (j := 3) (v := (x3 + 6)) (lv' := [(3, .int (x3 + 6)), (0, .ref xb), (1, .ref (eB E + 0)), (2, .ref (eB E + 51))]) dL_law_1649 rfl rfl rfl (Nat.le_of_ble_eq_true rfl) rfl ?_
          refine s_goto (tgt := 18) dL_law_1652 rfl ?_
          exact t_sub [1, 2, 3, 0] rfl (ih _ _ _ h)
        · rw [if_neg hb17] at h
          refine s_iconst (q := 313) (v := 0) dL_law_312 rfl rfl ?_
          obtain rfl := Option.some.inj h
          exact t_zret dL_law_313 rfl rfl rfl
      rw [if_neg hs3_1] at h
      by_cases hs3_2 : ((xs x3.toNatClampNeg) &&& 63) = 2
      · rw [if_pos hs3_2] at h
        refine s_tableIn (off := 281) (tgt := 314) dL_law_33 (by rw [hs3_2]; decide) (by rw [hs3_2]; decide) (by rw [hs3_2]; rfl) rfl ?_
        refine s_aload_n (q := 315) dL_law_314 rfl rfl 1 rfl ?_
        refine s_aload_n (q := 316) dL_law_315 rfl rfl 0 rfl ?_
        refine s_iload_n (q := 317) dL_law_316 rfl rfl 3 rfl ?_
        refine s_iconst (q := 318) (v := 1) dL_law_317 rfl rfl ?_
        refine s_iadd (q := 319) dL_law_318 rfl ?_
        obtain ⟨hg18, h⟩ := chk_some h
        refine s_oldld (q := 320) dL_law_319 rfl hxs (inB_in hg18) ?_
        refine s_aload_n (q := 321) dL_law_320 rfl rfl 0 rfl ?_
        refine s_iload_n (q := 322) dL_law_321 rfl rfl 3 rfl ?_
        refine s_iconst (q := 323) (v := 2) dL_law_322 rfl rfl ?_
        refine s_iadd (q := 324) dL_law_323 rfl ?_
        obtain ⟨hg19, h⟩ := chk_some h
        refine s_oldld (q := 325) dL_law_324 rfl hxs (inB_in hg19) ?_
        refine s_aload_n (q := 326) dL_law_325 rfl rfl 0 rfl ?_
        refine s_iload_n (q := 327) dL_law_326 rfl rfl 3 rfl ?_
        refine s_iconst (q := 328) (v := 3) dL_law_327 rfl rfl ?_
        refine s_iadd (q := 329) dL_law_328 rfl ?_
        obtain ⟨hg20, h⟩ := chk_some h
        refine s_oldld (q := 330) dL_law_329 rfl hxs (inB_in hg20) ?_
        obtain ⟨q21, hc21, h⟩ := bnd h
        try dsimp only at h
        refine t_callV (q := 333) (N := mX5_change) (a := eB E + 0) [.int (xs (x3 + 1).toNatClampNeg), .int (xs (x3 + 2).toNatClampNeg), .int (xs (x3 + 3).toNatClampNeg)] dL_law_330 rfl nkX5_change vkX5_change lL_22 ⟨Nat.le_of_ble_eq_true rfl, Nat.le_of_ble_eq_true rfl⟩ (rc_obj (k := 0) rfl rfl) rfl rfl (Nat.le_of_ble_eq_true rfl) (Nat.le_of_ble_eq_true rfl) (T_X5_change_0 E _ _ _ hc21) ?_
        refine s_aload_n (q := 334) dL_law_333 rfl rfl 2 rfl ?_
        refine s_aload_n (q := 335) dL_law_334 rfl rfl 0 rfl ?_
        refine s_iload_n (q := 336) dL_law_335 rfl rfl 3 rfl ?_
        refine s_iconst (q := 337) (v := 1) dL_law_336 rfl rfl ?_
        refine s_iadd (q := 338) dL_law_337 rfl ?_
        obtain ⟨hg22, h⟩ := chk_some h
        refine s_oldld (q := 339) dL_law_338 rfl hxs (inB_in hg22) ?_
        refine s_aload_n (q := 340) dL_law_339 rfl rfl 0 rfl ?_
        refine s_iload_n (q := 341) dL_law_340 rfl rfl 3 rfl ?_
        refine s_iconst (q := 342) (v := 2) dL_law_341 rfl rfl ?_
        refine s_iadd (q := 343) dL_law_342 rfl ?_
        obtain ⟨hg23, h⟩ := chk_some h
        refine s_oldld (q := 344) dL_law_343 rfl hxs (inB_in hg23) ?_
        refine s_aload_n (q := 345) dL_law_344 rfl rfl 0 rfl ?_
        refine s_iload_n (q := 346) dL_law_345 rfl rfl 3 rfl ?_
        refine s_iconst (q := 347) (v := 3) dL_law_346 rfl rfl ?_
        refine s_iadd (q := 348) dL_law_347 rfl ?_
        obtain ⟨hg24, h⟩ := chk_some h
        refine s_oldld (q := 349) dL_law_348 rfl hxs (inB_in hg24) ?_
        obtain ⟨q25, hc25, h⟩ := bnd h
        try dsimp only at h
        refine t_callV (q := 352) (N := mX6_change) (a := eB E + 51) [.int (xs (x3 + 1).toNatClampNeg), .int (xs (x3 + 2).toNatClampNeg), .int (xs (x3 + 3).toNatClampNeg)] dL_law_349 rfl nkX6_change vkX6_change lL_26 ⟨Nat.le_of_ble_eq_true rfl, Nat.le_of_ble_eq_true rfl⟩ (rc_obj (k := 51) rfl rfl) rfl rfl (Nat.le_of_ble_eq_true rfl) (Nat.le_of_ble_eq_true rfl) (T_X6_change_51 E _ _ _ hc25) ?_
        refine s_icmp_eq (q := 355) (tgt := 1649) dL_law_352 rfl rfl (fun hb26 => ?_) (fun hb26 => ?_)
        · rw [if_pos hb26] at h
          refine s_iinc (q := 1652) (j := 3) (v := (x3 + 6)) (lv' := [(3, .int (x3 + 6)), (0, .ref xb), (1, .ref (eB E + 0)), (2, .ref (eB E + 51))]) dL_law_1649 rfl rfl rfl (Nat.le_of_ble_eq_true rfl) rfl ?_
          refine s_goto (tgt := 18) dL_law_1652 rfl ?_
          exact t_sub [1, 2, 3, 0] rfl (ih _ _ _ h)
        · rw [if_neg hb26] at h
          refine s_iconst (q := 356) (v := 0) dL_law_355 rfl rfl ?_
          obtain rfl := Option.some.inj h
          exact t_zret dL_law_356 rfl rfl rfl
      rw [if_neg hs3_2] at h
      by_cases hs3_3 : ((xs x3.toNatClampNeg) &&& 63) = 3
      · rw [if_pos hs3_3] at h
        refine s_tableIn (off := 324) (tgt := 357) dL_law_33 (by rw [hs3_3]; decide) (by rw [hs3_3]; decide) (by rw [hs3_3]; rfl) rfl ?_
        refine s_aload_n (q := 358) dL_law_357 rfl rfl 1 rfl ?_
        refine s_aload_n (q := 359) dL_law_358 rfl rfl 0 rfl ?_
        refine s_iload_n (q := 360) dL_law_359 rfl rfl 3 rfl ?_
        refine s_iconst (q := 361) (v := 1) dL_law_360 rfl rfl ?_
        refine s_iadd (q := 362) dL_law_361 rfl ?_
        obtain ⟨hg27, h⟩ := chk_some h
        refine s_oldld (q := 363) dL_law_362 rfl hxs (inB_in hg27) ?_
        refine s_aload_n (q := 364) dL_law_363 rfl rfl 0 rfl ?_
        refine s_iload_n (q := 365) dL_law_364 rfl rfl 3 rfl ?_
        refine s_iconst (q := 366) (v := 2) dL_law_365 rfl rfl ?_
        refine s_iadd (q := 367) dL_law_366 rfl ?_
        obtain ⟨hg28, h⟩ := chk_some h
        refine s_oldld (q := 368) dL_law_367 rfl hxs (inB_in hg28) ?_
        refine s_aload_n (q := 369) dL_law_368 rfl rfl 0 rfl ?_
        refine s_iload_n (q := 370) dL_law_369 rfl rfl 3 rfl ?_
        refine s_iconst (q := 371) (v := 3) dL_law_370 rfl rfl ?_
        refine s_iadd (q := 372) dL_law_371 rfl ?_
        obtain ⟨hg29, h⟩ := chk_some h
        refine s_oldld (q := 373) dL_law_372 rfl hxs (inB_in hg29) ?_
        obtain ⟨q30, hc30, h⟩ := bnd h
        try dsimp only at h
        refine t_callV (q := 376) (N := mX5_crew) (a := eB E + 0) [.int (xs (x3 + 1).toNatClampNeg), .int (xs (x3 + 2).toNatClampNeg), .int (xs (x3 + 3).toNatClampNeg)] dL_law_373 rfl nkX5_crew vkX5_crew lL_27 ⟨Nat.le_of_ble_eq_true rfl, Nat.le_of_ble_eq_true rfl⟩ (rc_obj (k := 0) rfl rfl) rfl rfl (Nat.le_of_ble_eq_true rfl) (Nat.le_of_ble_eq_true rfl) (T_X5_crew_0 E _ _ _ hc30) ?_
        refine s_aload_n (q := 377) dL_law_376 rfl rfl 2 rfl ?_
        refine s_aload_n (q := 378) dL_law_377 rfl rfl 0 rfl ?_
        refine s_iload_n (q := 379) dL_law_378 rfl rfl 3 rfl ?_
        refine s_iconst (q := 380) (v := 1) dL_law_379 rfl rfl ?_
        refine s_iadd (q := 381) dL_law_380 rfl ?_
        obtain ⟨hg31, h⟩ := chk_some h
        refine s_oldld (q := 382) dL_law_381 rfl hxs (inB_in hg31) ?_
        refine s_aload_n (q := 383) dL_law_382 rfl rfl 0 rfl ?_
        refine s_iload_n (q := 384) dL_law_383 rfl rfl 3 rfl ?_
        refine s_iconst (q := 385) (v := 2) dL_law_384 rfl rfl ?_
        refine s_iadd (q := 386) dL_law_385 rfl ?_
        obtain ⟨hg32, h⟩ := chk_some h
        refine s_oldld (q := 387) dL_law_386 rfl hxs (inB_in hg32) ?_
        refine s_aload_n (q := 388) dL_law_387 rfl rfl 0 rfl ?_
        refine s_iload_n (q := 389) dL_law_388 rfl rfl 3 rfl ?_
        refine s_iconst (q := 390) (v := 3) dL_law_389 rfl rfl ?_
        refine s_iadd (q := 391) dL_law_390 rfl ?_
        obtain ⟨hg33, h⟩ := chk_some h
        refine s_oldld (q := 392) dL_law_391 rfl hxs (inB_in hg33) ?_
        obtain ⟨q34, hc34, h⟩ := bnd h
        try dsimp only at h
        refine t_callV (q := 395) (N := mX6_crew) (a := eB E + 51) [.int (xs (x3 + 1).toNatClampNeg), .int (xs (x3 + 2).toNatClampNeg), .int (xs (x3 + 3).toNatClampNeg)] dL_law_392 rfl nkX6_crew vkX6_crew lL_30 ⟨Nat.le_of_ble_eq_true rfl, Nat.le_of_ble_eq_true rfl⟩ (rc_obj (k := 51) rfl rfl) rfl rfl (Nat.le_of_ble_eq_true rfl) (Nat.le_of_ble_eq_true rfl) (T_X6_crew_51 E _ _ _ hc34) ?_
        refine s_icmp_eq (q := 398) (tgt := 1649) dL_law_395 rfl rfl (fun hb35 => ?_) (fun hb35 => ?_)
        · rw [if_pos hb35] at h
          refine s_iinc (q := 1652) (j := 3) (v := (x3 + 6)) (lv' := [(3, .int (x3 + 6)), (0, .ref xb), (1, .ref (eB E + 0)), (2, .ref (eB E + 51))]) dL_law_1649 rfl rfl rfl (Nat.le_of_ble_eq_true rfl) rfl ?_
          refine s_goto (tgt := 18) dL_law_1652 rfl ?_
          exact t_sub [1, 2, 3, 0] rfl (ih _ _ _ h)
        · rw [if_neg hb35] at h
          refine s_iconst (q := 399) (v := 0) dL_law_398 rfl rfl ?_
          obtain rfl := Option.some.inj h
          exact t_zret dL_law_399 rfl rfl rfl
      rw [if_neg hs3_3] at h
      by_cases hs3_4 : ((xs x3.toNatClampNeg) &&& 63) = 4
      · rw [if_pos hs3_4] at h
        refine s_tableIn (off := 367) (tgt := 400) dL_law_33 (by rw [hs3_4]; decide) (by rw [hs3_4]; decide) (by rw [hs3_4]; rfl) rfl ?_
        refine s_aload_n (q := 401) dL_law_400 rfl rfl 1 rfl ?_
        refine s_aload_n (q := 402) dL_law_401 rfl rfl 0 rfl ?_
        refine s_iload_n (q := 403) dL_law_402 rfl rfl 3 rfl ?_
        refine s_iconst (q := 404) (v := 1) dL_law_403 rfl rfl ?_
        refine s_iadd (q := 405) dL_law_404 rfl ?_
        obtain ⟨hg36, h⟩ := chk_some h
        refine s_oldld (q := 406) dL_law_405 rfl hxs (inB_in hg36) ?_
        refine s_aload_n (q := 407) dL_law_406 rfl rfl 0 rfl ?_
        refine s_iload_n (q := 408) dL_law_407 rfl rfl 3 rfl ?_
        refine s_iconst (q := 409) (v := 2) dL_law_408 rfl rfl ?_
        refine s_iadd (q := 410) dL_law_409 rfl ?_
        obtain ⟨hg37, h⟩ := chk_some h
        refine s_oldld (q := 411) dL_law_410 rfl hxs (inB_in hg37) ?_
        obtain ⟨q38, hc38, h⟩ := bnd h
        try dsimp only at h
        refine t_callV (q := 414) (N := mX5_crewOf) (a := eB E + 0) [.int (xs (x3 + 1).toNatClampNeg), .int (xs (x3 + 2).toNatClampNeg)] dL_law_411 rfl nkX5_crewOf vkX5_crewOf lL_31 ⟨Nat.le_of_ble_eq_true rfl, Nat.le_of_ble_eq_true rfl⟩ (rc_obj (k := 0) rfl rfl) rfl rfl (Nat.le_of_ble_eq_true rfl) (Nat.le_of_ble_eq_true rfl) (T_X5_crewOf_0 E _ _ hc38) ?_
        refine s_aload_n (q := 415) dL_law_414 rfl rfl 2 rfl ?_
        refine s_aload_n (q := 416) dL_law_415 rfl rfl 0 rfl ?_
        refine s_iload_n (q := 417) dL_law_416 rfl rfl 3 rfl ?_
        refine s_iconst (q := 418) (v := 1) dL_law_417 rfl rfl ?_
        refine s_iadd (q := 419) dL_law_418 rfl ?_
        obtain ⟨hg39, h⟩ := chk_some h
        refine s_oldld (q := 420) dL_law_419 rfl hxs (inB_in hg39) ?_
        refine s_aload_n (q := 421) dL_law_420 rfl rfl 0 rfl ?_
        refine s_iload_n (q := 422) dL_law_421 rfl rfl 3 rfl ?_
        refine s_iconst (q := 423) (v := 2) dL_law_422 rfl rfl ?_
        refine s_iadd (q := 424) dL_law_423 rfl ?_
        obtain ⟨hg40, h⟩ := chk_some h
        refine s_oldld (q := 425) dL_law_424 rfl hxs (inB_in hg40) ?_
        obtain ⟨q41, hc41, h⟩ := bnd h
        try dsimp only at h
        refine t_callV (q := 428) (N := mX6_crewOf) (a := eB E + 51) [.int (xs (x3 + 1).toNatClampNeg), .int (xs (x3 + 2).toNatClampNeg)] dL_law_425 rfl nkX6_crewOf vkX6_crewOf lL_34 ⟨Nat.le_of_ble_eq_true rfl, Nat.le_of_ble_eq_true rfl⟩ (rc_obj (k := 51) rfl rfl) rfl rfl (Nat.le_of_ble_eq_true rfl) (Nat.le_of_ble_eq_true rfl) (T_X6_crewOf_51 E _ _ hc41) ?_
        refine s_icmp_eq (q := 431) (tgt := 1649) dL_law_428 rfl rfl (fun hb42 => ?_) (fun hb42 => ?_)
        · rw [if_pos hb42] at h
          refine s_iinc (q := 1652) (j := 3) (v := (x3 + 6)) (lv' := [(3, .int (x3 + 6)), (0, .ref xb), (1, .ref (eB E + 0)), (2, .ref (eB E + 51))]) dL_law_1649 rfl rfl rfl (Nat.le_of_ble_eq_true rfl) rfl ?_
          refine s_goto (tgt := 18) dL_law_1652 rfl ?_
          exact t_sub [1, 2, 3, 0] rfl (ih _ _ _ h)
        · rw [if_neg hb42] at h
          refine s_iconst (q := 432) (v := 0) dL_law_431 rfl rfl ?_
          obtain rfl := Option.some.inj h
          exact t_zret dL_law_432 rfl rfl rfl
      rw [if_neg hs3_4] at h
      by_cases hs3_5 : ((xs x3.toNatClampNeg) &&& 63) = 5
      · rw [if_pos hs3_5] at h
        refine s_tableIn (off := 400) (tgt := 433) dL_law_33 (by rw [hs3_5]; decide) (by rw [hs3_5]; decide) (by rw [hs3_5]; rfl) rfl ?_
        refine s_aload_n (q := 434) dL_law_433 rfl rfl 1 rfl ?_
        refine s_aload_n (q := 435) dL_law_434 rfl rfl 0 rfl ?_
        refine s_iload_n (q := 436) dL_law_435 rfl rfl 3 rfl ?_
        refine s_iconst (q := 437) (v := 1) dL_law_436 rfl rfl ?_
        refine s_iadd (q := 438) dL_law_437 rfl ?_
        obtain ⟨hg43, h⟩ := chk_some h
        refine s_oldld (q := 439) dL_law_438 rfl hxs (inB_in hg43) ?_
        refine s_aload_n (q := 440) dL_law_439 rfl rfl 0 rfl ?_
        refine s_iload_n (q := 441) dL_law_440 rfl rfl 3 rfl ?_
        refine s_iconst (q := 442) (v := 2) dL_law_441 rfl rfl ?_
        refine s_iadd (q := 443) dL_law_442 rfl ?_
        obtain ⟨hg44, h⟩ := chk_some h
        refine s_oldld (q := 444) dL_law_443 rfl hxs (inB_in hg44) ?_
        obtain ⟨q45, hc45, h⟩ := bnd h
        try dsimp only at h
        refine t_callV (q := 447) (N := mX5_set) (a := eB E + 0) [.int (xs (x3 + 1).toNatClampNeg), .int (xs (x3 + 2).toNatClampNeg)] dL_law_444 rfl nkX5_set vkX5_set lL_35 ⟨Nat.le_of_ble_eq_true rfl, Nat.le_of_ble_eq_true rfl⟩ (rc_obj (k := 0) rfl rfl) rfl rfl (Nat.le_of_ble_eq_true rfl) (Nat.le_of_ble_eq_true rfl) (T_X5_set_0 E _ _ hc45) ?_
        refine s_aload_n (q := 448) dL_law_447 rfl rfl 2 rfl ?_
        refine s_aload_n (q := 449) dL_law_448 rfl rfl 0 rfl ?_
        refine s_iload_n (q := 450) dL_law_449 rfl rfl 3 rfl ?_
        refine s_iconst (q := 451) (v := 1) dL_law_450 rfl rfl ?_
        refine s_iadd (q := 452) dL_law_451 rfl ?_
        obtain ⟨hg46, h⟩ := chk_some h
        refine s_oldld (q := 453) dL_law_452 rfl hxs (inB_in hg46) ?_
        refine s_aload_n (q := 454) dL_law_453 rfl rfl 0 rfl ?_
        refine s_iload_n (q := 455) dL_law_454 rfl rfl 3 rfl ?_
        refine s_iconst (q := 456) (v := 2) dL_law_455 rfl rfl ?_
        refine s_iadd (q := 457) dL_law_456 rfl ?_
        obtain ⟨hg47, h⟩ := chk_some h
        refine s_oldld (q := 458) dL_law_457 rfl hxs (inB_in hg47) ?_
        obtain ⟨q48, hc48, h⟩ := bnd h
        try dsimp only at h
        refine t_callV (q := 461) (N := mX6_set) (a := eB E + 51) [.int (xs (x3 + 1).toNatClampNeg), .int (xs (x3 + 2).toNatClampNeg)] dL_law_458 rfl nkX6_set vkX6_set lL_38 ⟨Nat.le_of_ble_eq_true rfl, Nat.le_of_ble_eq_true rfl⟩ (rc_obj (k := 51) rfl rfl) rfl rfl (Nat.le_of_ble_eq_true rfl) (Nat.le_of_ble_eq_true rfl) (T_X6_set_51 E _ _ hc48) ?_
        refine s_icmp_eq (q := 464) (tgt := 1649) dL_law_461 rfl rfl (fun hb49 => ?_) (fun hb49 => ?_)
        · rw [if_pos hb49] at h
          refine s_iinc (q := 1652) (j := 3) (v := (x3 + 6)) (lv' := [(3, .int (x3 + 6)), (0, .ref xb), (1, .ref (eB E + 0)), (2, .ref (eB E + 51))]) dL_law_1649 rfl rfl rfl (Nat.le_of_ble_eq_true rfl) rfl ?_
          refine s_goto (tgt := 18) dL_law_1652 rfl ?_
          exact t_sub [1, 2, 3, 0] rfl (ih _ _ _ h)
        · rw [if_neg hb49] at h
          refine s_iconst (q := 465) (v := 0) dL_law_464 rfl rfl ?_
          obtain rfl := Option.some.inj h
          exact t_zret dL_law_465 rfl rfl rfl
      rw [if_neg hs3_5] at h
      by_cases hs3_6 : ((xs x3.toNatClampNeg) &&& 63) = 6
      · rw [if_pos hs3_6] at h
        refine s_tableIn (off := 433) (tgt := 466) dL_law_33 (by rw [hs3_6]; decide) (by rw [hs3_6]; decide) (by rw [hs3_6]; rfl) rfl ?_
        refine s_aload_n (q := 467) dL_law_466 rfl rfl 1 rfl ?_
        refine s_aload_n (q := 468) dL_law_467 rfl rfl 0 rfl ?_
        refine s_iload_n (q := 469) dL_law_468 rfl rfl 3 rfl ?_
        refine s_iconst (q := 470) (v := 1) dL_law_469 rfl rfl ?_
        refine s_iadd (q := 471) dL_law_470 rfl ?_
        obtain ⟨hg50, h⟩ := chk_some h
        refine s_oldld (q := 472) dL_law_471 rfl hxs (inB_in hg50) ?_
        refine s_aload_n (q := 473) dL_law_472 rfl rfl 0 rfl ?_
        refine s_iload_n (q := 474) dL_law_473 rfl rfl 3 rfl ?_
        refine s_iconst (q := 475) (v := 2) dL_law_474 rfl rfl ?_
        refine s_iadd (q := 476) dL_law_475 rfl ?_
        obtain ⟨hg51, h⟩ := chk_some h
        refine s_oldld (q := 477) dL_law_476 rfl hxs (inB_in hg51) ?_
        obtain ⟨q52, hc52, h⟩ := bnd h
        try dsimp only at h
        refine t_callV (q := 480) (N := mX5_apart) (a := eB E + 0) [.int (xs (x3 + 1).toNatClampNeg), .int (xs (x3 + 2).toNatClampNeg)] dL_law_477 rfl nkX5_apart vkX5_apart lL_39 ⟨Nat.le_of_ble_eq_true rfl, Nat.le_of_ble_eq_true rfl⟩ (rc_obj (k := 0) rfl rfl) rfl rfl (Nat.le_of_ble_eq_true rfl) (Nat.le_of_ble_eq_true rfl) (T_X5_apart_0 E _ _ hc52) ?_
        refine s_aload_n (q := 481) dL_law_480 rfl rfl 2 rfl ?_
        refine s_aload_n (q := 482) dL_law_481 rfl rfl 0 rfl ?_
        refine s_iload_n (q := 483) dL_law_482 rfl rfl 3 rfl ?_
        refine s_iconst (q := 484) (v := 1) dL_law_483 rfl rfl ?_
        refine s_iadd (q := 485) dL_law_484 rfl ?_
        obtain ⟨hg53, h⟩ := chk_some h
        refine s_oldld (q := 486) dL_law_485 rfl hxs (inB_in hg53) ?_
        refine s_aload_n (q := 487) dL_law_486 rfl rfl 0 rfl ?_
        refine s_iload_n (q := 488) dL_law_487 rfl rfl 3 rfl ?_
        refine s_iconst (q := 489) (v := 2) dL_law_488 rfl rfl ?_
        refine s_iadd (q := 490) dL_law_489 rfl ?_
        obtain ⟨hg54, h⟩ := chk_some h
        refine s_oldld (q := 491) dL_law_490 rfl hxs (inB_in hg54) ?_
        obtain ⟨q55, hc55, h⟩ := bnd h
        try dsimp only at h
        refine t_callV (q := 494) (N := mX6_apart) (a := eB E + 51) [.int (xs (x3 + 1).toNatClampNeg), .int (xs (x3 + 2).toNatClampNeg)] dL_law_491 rfl nkX6_apart vkX6_apart lL_42 ⟨Nat.le_of_ble_eq_true rfl, Nat.le_of_ble_eq_true rfl⟩ (rc_obj (k := 51) rfl rfl) rfl rfl (Nat.le_of_ble_eq_true rfl) (Nat.le_of_ble_eq_true rfl) (T_X6_apart_51 E _ _ hc55) ?_
        refine s_icmp_eq (q := 497) (tgt := 1649) dL_law_494 rfl rfl (fun hb56 => ?_) (fun hb56 => ?_)
        · rw [if_pos hb56] at h
          refine s_iinc (q := 1652) (j := 3) (v := (x3 + 6)) (lv' := [(3, .int (x3 + 6)), (0, .ref xb), (1, .ref (eB E + 0)), (2, .ref (eB E + 51))]) dL_law_1649 rfl rfl rfl (Nat.le_of_ble_eq_true rfl) rfl ?_
          refine s_goto (tgt := 18) dL_law_1652 rfl ?_
          exact t_sub [1, 2, 3, 0] rfl (ih _ _ _ h)
        · rw [if_neg hb56] at h
          refine s_iconst (q := 498) (v := 0) dL_law_497 rfl rfl ?_
          obtain rfl := Option.some.inj h
          exact t_zret dL_law_498 rfl rfl rfl
      rw [if_neg hs3_6] at h
      by_cases hs3_7 : ((xs x3.toNatClampNeg) &&& 63) = 7
      · rw [if_pos hs3_7] at h
        refine s_tableIn (off := 466) (tgt := 499) dL_law_33 (by rw [hs3_7]; decide) (by rw [hs3_7]; decide) (by rw [hs3_7]; rfl) rfl ?_
        refine s_aload_n (q := 500) dL_law_499 rfl rfl 1 rfl ?_
        refine s_aload_n (q := 501) dL_law_500 rfl rfl 0 rfl ?_
        refine s_iload_n (q := 502) dL_law_501 rfl rfl 3 rfl ?_
        refine s_iconst (q := 503) (v := 1) dL_law_502 rfl rfl ?_
        refine s_iadd (q := 504) dL_law_503 rfl ?_
        obtain ⟨hg57, h⟩ := chk_some h
        refine s_oldld (q := 505) dL_law_504 rfl hxs (inB_in hg57) ?_
        obtain ⟨q58, hc58, h⟩ := bnd h
        try dsimp only at h
        refine t_callV (q := 508) (N := mX5_go) (a := eB E + 0) [.int (xs (x3 + 1).toNatClampNeg)] dL_law_505 rfl nkX5_go vkX5_go lL_43 ⟨Nat.le_of_ble_eq_true rfl, Nat.le_of_ble_eq_true rfl⟩ (rc_obj (k := 0) rfl rfl) rfl rfl (Nat.le_of_ble_eq_true rfl) (Nat.le_of_ble_eq_true rfl) (T_X5_go_0 E _ hc58) ?_
        refine s_aload_n (q := 509) dL_law_508 rfl rfl 2 rfl ?_
        refine s_aload_n (q := 510) dL_law_509 rfl rfl 0 rfl ?_
        refine s_iload_n (q := 511) dL_law_510 rfl rfl 3 rfl ?_
        refine s_iconst (q := 512) (v := 1) dL_law_511 rfl rfl ?_
        refine s_iadd (q := 513) dL_law_512 rfl ?_
        obtain ⟨hg59, h⟩ := chk_some h
        refine s_oldld (q := 514) dL_law_513 rfl hxs (inB_in hg59) ?_
        obtain ⟨q60, hc60, h⟩ := bnd h
        try dsimp only at h
        refine t_callV (q := 517) (N := mX6_go) (a := eB E + 51) [.int (xs (x3 + 1).toNatClampNeg)] dL_law_514 rfl nkX6_go vkX6_go lL_47 ⟨Nat.le_of_ble_eq_true rfl, Nat.le_of_ble_eq_true rfl⟩ (rc_obj (k := 51) rfl rfl) rfl rfl (Nat.le_of_ble_eq_true rfl) (Nat.le_of_ble_eq_true rfl) (T_X6_go_51 E _ hc60) ?_
        refine s_icmp_eq (q := 520) (tgt := 1649) dL_law_517 rfl rfl (fun hb61 => ?_) (fun hb61 => ?_)
        · rw [if_pos hb61] at h
          refine s_iinc (q := 1652) (j := 3) (v := (x3 + 6)) (lv' := [(3, .int (x3 + 6)), (0, .ref xb), (1, .ref (eB E + 0)), (2, .ref (eB E + 51))]) dL_law_1649 rfl rfl rfl (Nat.le_of_ble_eq_true rfl) rfl ?_
          refine s_goto (tgt := 18) dL_law_1652 rfl ?_
          exact t_sub [1, 2, 3, 0] rfl (ih _ _ _ h)
        · rw [if_neg hb61] at h
          refine s_iconst (q := 521) (v := 0) dL_law_520 rfl rfl ?_
          obtain rfl := Option.some.inj h
          exact t_zret dL_law_521 rfl rfl rfl
      rw [if_neg hs3_7] at h
      by_cases hs3_8 : ((xs x3.toNatClampNeg) &&& 63) = 8
      · rw [if_pos hs3_8] at h
        refine s_tableIn (off := 489) (tgt := 522) dL_law_33 (by rw [hs3_8]; decide) (by rw [hs3_8]; decide) (by rw [hs3_8]; rfl) rfl ?_
        refine s_aload_n (q := 523) dL_law_522 rfl rfl 1 rfl ?_
        refine s_aload_n (q := 524) dL_law_523 rfl rfl 0 rfl ?_
        refine s_iload_n (q := 525) dL_law_524 rfl rfl 3 rfl ?_
        refine s_iconst (q := 526) (v := 1) dL_law_525 rfl rfl ?_
        refine s_iadd (q := 527) dL_law_526 rfl ?_
        obtain ⟨hg62, h⟩ := chk_some h
        refine s_oldld (q := 528) dL_law_527 rfl hxs (inB_in hg62) ?_
        obtain ⟨q63, hc63, h⟩ := bnd h
        try dsimp only at h
        refine t_callV (q := 531) (N := mX5_now) (a := eB E + 0) [.int (xs (x3 + 1).toNatClampNeg)] dL_law_528 rfl nkX5_now vkX5_now lL_48 ⟨Nat.le_of_ble_eq_true rfl, Nat.le_of_ble_eq_true rfl⟩ (rc_obj (k := 0) rfl rfl) rfl rfl (Nat.le_of_ble_eq_true rfl) (Nat.le_of_ble_eq_true rfl) (T_X5_now_0 E _ hc63) ?_
        refine s_aload_n (q := 532) dL_law_531 rfl rfl 2 rfl ?_
        refine s_aload_n (q := 533) dL_law_532 rfl rfl 0 rfl ?_
        refine s_iload_n (q := 534) dL_law_533 rfl rfl 3 rfl ?_
        refine s_iconst (q := 535) (v := 1) dL_law_534 rfl rfl ?_
        refine s_iadd (q := 536) dL_law_535 rfl ?_
        obtain ⟨hg64, h⟩ := chk_some h
        refine s_oldld (q := 537) dL_law_536 rfl hxs (inB_in hg64) ?_
        obtain ⟨q65, hc65, h⟩ := bnd h
        try dsimp only at h
        refine t_callV (q := 540) (N := mX6_now) (a := eB E + 51) [.int (xs (x3 + 1).toNatClampNeg)] dL_law_537 rfl nkX6_now vkX6_now lL_51 ⟨Nat.le_of_ble_eq_true rfl, Nat.le_of_ble_eq_true rfl⟩ (rc_obj (k := 51) rfl rfl) rfl rfl (Nat.le_of_ble_eq_true rfl) (Nat.le_of_ble_eq_true rfl) (T_X6_now_51 E _ hc65) ?_
        refine s_icmp_eq (q := 543) (tgt := 1649) dL_law_540 rfl rfl (fun hb66 => ?_) (fun hb66 => ?_)
        · rw [if_pos hb66] at h
          refine s_iinc (q := 1652) (j := 3) (v := (x3 + 6)) (lv' := [(3, .int (x3 + 6)), (0, .ref xb), (1, .ref (eB E + 0)), (2, .ref (eB E + 51))]) dL_law_1649 rfl rfl rfl (Nat.le_of_ble_eq_true rfl) rfl ?_
          refine s_goto (tgt := 18) dL_law_1652 rfl ?_
          exact t_sub [1, 2, 3, 0] rfl (ih _ _ _ h)
        · rw [if_neg hb66] at h
          refine s_iconst (q := 544) (v := 0) dL_law_543 rfl rfl ?_
          obtain rfl := Option.some.inj h
          exact t_zret dL_law_544 rfl rfl rfl
      rw [if_neg hs3_8] at h
      by_cases hs3_9 : ((xs x3.toNatClampNeg) &&& 63) = 9
      · rw [if_pos hs3_9] at h
        refine s_tableIn (off := 512) (tgt := 545) dL_law_33 (by rw [hs3_9]; decide) (by rw [hs3_9]; decide) (by rw [hs3_9]; rfl) rfl ?_
        refine s_aload_n (q := 546) dL_law_545 rfl rfl 1 rfl ?_
        refine s_aload_n (q := 547) dL_law_546 rfl rfl 0 rfl ?_
        refine s_iload_n (q := 548) dL_law_547 rfl rfl 3 rfl ?_
        refine s_iconst (q := 549) (v := 1) dL_law_548 rfl rfl ?_
        refine s_iadd (q := 550) dL_law_549 rfl ?_
        obtain ⟨hg67, h⟩ := chk_some h
        refine s_oldld (q := 551) dL_law_550 rfl hxs (inB_in hg67) ?_
        refine s_aload_n (q := 552) dL_law_551 rfl rfl 0 rfl ?_
        refine s_iload_n (q := 553) dL_law_552 rfl rfl 3 rfl ?_
        refine s_iconst (q := 554) (v := 2) dL_law_553 rfl rfl ?_
        refine s_iadd (q := 555) dL_law_554 rfl ?_
        obtain ⟨hg68, h⟩ := chk_some h
        refine s_oldld (q := 556) dL_law_555 rfl hxs (inB_in hg68) ?_
        obtain ⟨q69, hc69, h⟩ := bnd h
        try dsimp only at h
        refine t_callV (q := 559) (N := mX5_mends) (a := eB E + 0) [.int (xs (x3 + 1).toNatClampNeg), .int (xs (x3 + 2).toNatClampNeg)] dL_law_556 rfl nkX5_mends vkX5_mends lL_52 ⟨Nat.le_of_ble_eq_true rfl, Nat.le_of_ble_eq_true rfl⟩ (rc_obj (k := 0) rfl rfl) rfl rfl (Nat.le_of_ble_eq_true rfl) (Nat.le_of_ble_eq_true rfl) (T_X5_mends_0 E _ _ hc69) ?_
        refine s_aload_n (q := 560) dL_law_559 rfl rfl 2 rfl ?_
        refine s_aload_n (q := 561) dL_law_560 rfl rfl 0 rfl ?_
        refine s_iload_n (q := 562) dL_law_561 rfl rfl 3 rfl ?_
        refine s_iconst (q := 563) (v := 1) dL_law_562 rfl rfl ?_
        refine s_iadd (q := 564) dL_law_563 rfl ?_
        obtain ⟨hg70, h⟩ := chk_some h
        refine s_oldld (q := 565) dL_law_564 rfl hxs (inB_in hg70) ?_
        refine s_aload_n (q := 566) dL_law_565 rfl rfl 0 rfl ?_
        refine s_iload_n (q := 567) dL_law_566 rfl rfl 3 rfl ?_
        refine s_iconst (q := 568) (v := 2) dL_law_567 rfl rfl ?_
        refine s_iadd (q := 569) dL_law_568 rfl ?_
        obtain ⟨hg71, h⟩ := chk_some h
        refine s_oldld (q := 570) dL_law_569 rfl hxs (inB_in hg71) ?_
        obtain ⟨q72, hc72, h⟩ := bnd h
        try dsimp only at h
        refine t_callV (q := 573) (N := mX6_mends) (a := eB E + 51) [.int (xs (x3 + 1).toNatClampNeg), .int (xs (x3 + 2).toNatClampNeg)] dL_law_570 rfl nkX6_mends vkX6_mends lL_55 ⟨Nat.le_of_ble_eq_true rfl, Nat.le_of_ble_eq_true rfl⟩ (rc_obj (k := 51) rfl rfl) rfl rfl (Nat.le_of_ble_eq_true rfl) (Nat.le_of_ble_eq_true rfl) (T_X6_mends_51 E _ _ hc72) ?_
        refine s_icmp_eq (q := 576) (tgt := 1649) dL_law_573 rfl rfl (fun hb73 => ?_) (fun hb73 => ?_)
        · rw [if_pos hb73] at h
          refine s_iinc (q := 1652) (j := 3) (v := (x3 + 6)) (lv' := [(3, .int (x3 + 6)), (0, .ref xb), (1, .ref (eB E + 0)), (2, .ref (eB E + 51))]) dL_law_1649 rfl rfl rfl (Nat.le_of_ble_eq_true rfl) rfl ?_
          refine s_goto (tgt := 18) dL_law_1652 rfl ?_
          exact t_sub [1, 2, 3, 0] rfl (ih _ _ _ h)
        · rw [if_neg hb73] at h
          refine s_iconst (q := 577) (v := 0) dL_law_576 rfl rfl ?_
          obtain rfl := Option.some.inj h
          exact t_zret dL_law_577 rfl rfl rfl
      rw [if_neg hs3_9] at h
      by_cases hs3_10 : ((xs x3.toNatClampNeg) &&& 63) = 10
      · rw [if_pos hs3_10] at h
        refine s_tableIn (off := 545) (tgt := 578) dL_law_33 (by rw [hs3_10]; decide) (by rw [hs3_10]; decide) (by rw [hs3_10]; rfl) rfl ?_
        refine s_aload_n (q := 579) dL_law_578 rfl rfl 1 rfl ?_
        refine s_aload_n (q := 580) dL_law_579 rfl rfl 0 rfl ?_
        refine s_iload_n (q := 581) dL_law_580 rfl rfl 3 rfl ?_
        refine s_iconst (q := 582) (v := 1) dL_law_581 rfl rfl ?_
        refine s_iadd (q := 583) dL_law_582 rfl ?_
        obtain ⟨hg74, h⟩ := chk_some h
        refine s_oldld (q := 584) dL_law_583 rfl hxs (inB_in hg74) ?_
        refine s_aload_n (q := 585) dL_law_584 rfl rfl 0 rfl ?_
        refine s_iload_n (q := 586) dL_law_585 rfl rfl 3 rfl ?_
        refine s_iconst (q := 587) (v := 2) dL_law_586 rfl rfl ?_
        refine s_iadd (q := 588) dL_law_587 rfl ?_
        obtain ⟨hg75, h⟩ := chk_some h
        refine s_oldld (q := 589) dL_law_588 rfl hxs (inB_in hg75) ?_
        obtain ⟨q76, hc76, h⟩ := bnd h
        try dsimp only at h
        refine t_callV (q := 592) (N := mX5_ahead) (a := eB E + 0) [.int (xs (x3 + 1).toNatClampNeg), .int (xs (x3 + 2).toNatClampNeg)] dL_law_589 rfl nkX5_ahead vkX5_ahead lL_56 ⟨Nat.le_of_ble_eq_true rfl, Nat.le_of_ble_eq_true rfl⟩ (rc_obj (k := 0) rfl rfl) rfl rfl (Nat.le_of_ble_eq_true rfl) (Nat.le_of_ble_eq_true rfl) (T_X5_ahead_0 E _ _ hc76) ?_
        refine s_aload_n (q := 593) dL_law_592 rfl rfl 2 rfl ?_
        refine s_aload_n (q := 594) dL_law_593 rfl rfl 0 rfl ?_
        refine s_iload_n (q := 595) dL_law_594 rfl rfl 3 rfl ?_
        refine s_iconst (q := 596) (v := 1) dL_law_595 rfl rfl ?_
        refine s_iadd (q := 597) dL_law_596 rfl ?_
        obtain ⟨hg77, h⟩ := chk_some h
        refine s_oldld (q := 598) dL_law_597 rfl hxs (inB_in hg77) ?_
        refine s_aload_n (q := 599) dL_law_598 rfl rfl 0 rfl ?_
        refine s_iload_n (q := 600) dL_law_599 rfl rfl 3 rfl ?_
        refine s_iconst (q := 601) (v := 2) dL_law_600 rfl rfl ?_
        refine s_iadd (q := 602) dL_law_601 rfl ?_
        obtain ⟨hg78, h⟩ := chk_some h
        refine s_oldld (q := 603) dL_law_602 rfl hxs (inB_in hg78) ?_
        obtain ⟨q79, hc79, h⟩ := bnd h
        try dsimp only at h
        refine t_callV (q := 606) (N := mX6_ahead) (a := eB E + 51) [.int (xs (x3 + 1).toNatClampNeg), .int (xs (x3 + 2).toNatClampNeg)] dL_law_603 rfl nkX6_ahead vkX6_ahead lL_59 ⟨Nat.le_of_ble_eq_true rfl, Nat.le_of_ble_eq_true rfl⟩ (rc_obj (k := 51) rfl rfl) rfl rfl (Nat.le_of_ble_eq_true rfl) (Nat.le_of_ble_eq_true rfl) (T_X6_ahead_51 E _ _ hc79) ?_
        refine s_icmp_eq (q := 609) (tgt := 1649) dL_law_606 rfl rfl (fun hb80 => ?_) (fun hb80 => ?_)
        · rw [if_pos hb80] at h
          refine s_iinc (q := 1652) (j := 3) (v := (x3 + 6)) (lv' := [(3, .int (x3 + 6)), (0, .ref xb), (1, .ref (eB E + 0)), (2, .ref (eB E + 51))]) dL_law_1649 rfl rfl rfl (Nat.le_of_ble_eq_true rfl) rfl ?_
          refine s_goto (tgt := 18) dL_law_1652 rfl ?_
          exact t_sub [1, 2, 3, 0] rfl (ih _ _ _ h)
        · rw [if_neg hb80] at h
          refine s_iconst (q := 610) (v := 0) dL_law_609 rfl rfl ?_
          obtain rfl := Option.some.inj h
          exact t_zret dL_law_610 rfl rfl rfl
      rw [if_neg hs3_10] at h
      by_cases hs3_11 : ((xs x3.toNatClampNeg) &&& 63) = 11
      · rw [if_pos hs3_11] at h
        refine s_tableIn (off := 578) (tgt := 611) dL_law_33 (by rw [hs3_11]; decide) (by rw [hs3_11]; decide) (by rw [hs3_11]; rfl) rfl ?_
        refine s_aload_n (q := 612) dL_law_611 rfl rfl 1 rfl ?_
        refine s_aload_n (q := 613) dL_law_612 rfl rfl 0 rfl ?_
        refine s_iload_n (q := 614) dL_law_613 rfl rfl 3 rfl ?_
        refine s_iconst (q := 615) (v := 1) dL_law_614 rfl rfl ?_
        refine s_iadd (q := 616) dL_law_615 rfl ?_
        obtain ⟨hg81, h⟩ := chk_some h
        refine s_oldld (q := 617) dL_law_616 rfl hxs (inB_in hg81) ?_
        obtain ⟨q82, hc82, h⟩ := bnd h
        try dsimp only at h
        refine t_callV (q := 620) (N := mX5_lasts) (a := eB E + 0) [.int (xs (x3 + 1).toNatClampNeg)] dL_law_617 rfl nkX5_lasts vkX5_lasts lL_60 ⟨Nat.le_of_ble_eq_true rfl, Nat.le_of_ble_eq_true rfl⟩ (rc_obj (k := 0) rfl rfl) rfl rfl (Nat.le_of_ble_eq_true rfl) (Nat.le_of_ble_eq_true rfl) (T_X5_lasts_0 E _ hc82) ?_
        refine s_aload_n (q := 621) dL_law_620 rfl rfl 2 rfl ?_
        refine s_aload_n (q := 622) dL_law_621 rfl rfl 0 rfl ?_
        refine s_iload_n (q := 623) dL_law_622 rfl rfl 3 rfl ?_
        refine s_iconst (q := 624) (v := 1) dL_law_623 rfl rfl ?_
        refine s_iadd (q := 625) dL_law_624 rfl ?_
        obtain ⟨hg83, h⟩ := chk_some h
        refine s_oldld (q := 626) dL_law_625 rfl hxs (inB_in hg83) ?_
        obtain ⟨q84, hc84, h⟩ := bnd h
        try dsimp only at h
        refine t_callV (q := 629) (N := mX6_lasts) (a := eB E + 51) [.int (xs (x3 + 1).toNatClampNeg)] dL_law_626 rfl nkX6_lasts vkX6_lasts lL_63 ⟨Nat.le_of_ble_eq_true rfl, Nat.le_of_ble_eq_true rfl⟩ (rc_obj (k := 51) rfl rfl) rfl rfl (Nat.le_of_ble_eq_true rfl) (Nat.le_of_ble_eq_true rfl) (T_X6_lasts_51 E _ hc84) ?_
        refine s_icmp_eq (q := 632) (tgt := 1649) dL_law_629 rfl rfl (fun hb85 => ?_) (fun hb85 => ?_)
        · rw [if_pos hb85] at h
          refine s_iinc (q := 1652) (j := 3) (v := (x3 + 6)) (lv' := [(3, .int (x3 + 6)), (0, .ref xb), (1, .ref (eB E + 0)), (2, .ref (eB E + 51))]) dL_law_1649 rfl rfl rfl (Nat.le_of_ble_eq_true rfl) rfl ?_
          refine s_goto (tgt := 18) dL_law_1652 rfl ?_
          exact t_sub [1, 2, 3, 0] rfl (ih _ _ _ h)
        · rw [if_neg hb85] at h
          refine s_iconst (q := 633) (v := 0) dL_law_632 rfl rfl ?_
          obtain rfl := Option.some.inj h
          exact t_zret dL_law_633 rfl rfl rfl
      rw [if_neg hs3_11] at h
      by_cases hs3_12 : ((xs x3.toNatClampNeg) &&& 63) = 12
      · rw [if_pos hs3_12] at h
        refine s_tableIn (off := 601) (tgt := 634) dL_law_33 (by rw [hs3_12]; decide) (by rw [hs3_12]; decide) (by rw [hs3_12]; rfl) rfl ?_
        refine s_aload_n (q := 635) dL_law_634 rfl rfl 1 rfl ?_
        refine s_aload_n (q := 636) dL_law_635 rfl rfl 0 rfl ?_
        refine s_iload_n (q := 637) dL_law_636 rfl rfl 3 rfl ?_
        refine s_iconst (q := 638) (v := 1) dL_law_637 rfl rfl ?_
        refine s_iadd (q := 639) dL_law_638 rfl ?_
        obtain ⟨hg86, h⟩ := chk_some h
        refine s_oldld (q := 640) dL_law_639 rfl hxs (inB_in hg86) ?_
        obtain ⟨q87, hc87, h⟩ := bnd h
        try dsimp only at h
        refine t_callV (q := 643) (N := mX5_shine) (a := eB E + 0) [.int (xs (x3 + 1).toNatClampNeg)] dL_law_640 rfl nkX5_shine vkX5_shine lL_64 ⟨Nat.le_of_ble_eq_true rfl, Nat.le_of_ble_eq_true rfl⟩ (rc_obj (k := 0) rfl rfl) rfl rfl (Nat.le_of_ble_eq_true rfl) (Nat.le_of_ble_eq_true rfl) (T_X5_shine_0 E _ hc87) ?_
        refine s_aload_n (q := 644) dL_law_643 rfl rfl 2 rfl ?_
        refine s_aload_n (q := 645) dL_law_644 rfl rfl 0 rfl ?_
        refine s_iload_n (q := 646) dL_law_645 rfl rfl 3 rfl ?_
        refine s_iconst (q := 647) (v := 1) dL_law_646 rfl rfl ?_
        refine s_iadd (q := 648) dL_law_647 rfl ?_
        obtain ⟨hg88, h⟩ := chk_some h
        refine s_oldld (q := 649) dL_law_648 rfl hxs (inB_in hg88) ?_
        obtain ⟨q89, hc89, h⟩ := bnd h
        try dsimp only at h
        refine t_callV (q := 652) (N := mX6_shine) (a := eB E + 51) [.int (xs (x3 + 1).toNatClampNeg)] dL_law_649 rfl nkX6_shine vkX6_shine lL_67 ⟨Nat.le_of_ble_eq_true rfl, Nat.le_of_ble_eq_true rfl⟩ (rc_obj (k := 51) rfl rfl) rfl rfl (Nat.le_of_ble_eq_true rfl) (Nat.le_of_ble_eq_true rfl) (T_X6_shine_51 E _ hc89) ?_
        refine s_icmp_eq (q := 655) (tgt := 1649) dL_law_652 rfl rfl (fun hb90 => ?_) (fun hb90 => ?_)
        · rw [if_pos hb90] at h
          refine s_iinc (q := 1652) (j := 3) (v := (x3 + 6)) (lv' := [(3, .int (x3 + 6)), (0, .ref xb), (1, .ref (eB E + 0)), (2, .ref (eB E + 51))]) dL_law_1649 rfl rfl rfl (Nat.le_of_ble_eq_true rfl) rfl ?_
          refine s_goto (tgt := 18) dL_law_1652 rfl ?_
          exact t_sub [1, 2, 3, 0] rfl (ih _ _ _ h)
        · rw [if_neg hb90] at h
          refine s_iconst (q := 656) (v := 0) dL_law_655 rfl rfl ?_
          obtain rfl := Option.some.inj h
          exact t_zret dL_law_656 rfl rfl rfl
      rw [if_neg hs3_12] at h
      by_cases hs3_13 : ((xs x3.toNatClampNeg) &&& 63) = 13
      · rw [if_pos hs3_13] at h
        refine s_tableIn (off := 624) (tgt := 657) dL_law_33 (by rw [hs3_13]; decide) (by rw [hs3_13]; decide) (by rw [hs3_13]; rfl) rfl ?_
        refine s_aload_n (q := 658) dL_law_657 rfl rfl 1 rfl ?_
        refine s_aload_n (q := 659) dL_law_658 rfl rfl 0 rfl ?_
        refine s_iload_n (q := 660) dL_law_659 rfl rfl 3 rfl ?_
        refine s_iconst (q := 661) (v := 1) dL_law_660 rfl rfl ?_
        refine s_iadd (q := 662) dL_law_661 rfl ?_
        obtain ⟨hg91, h⟩ := chk_some h
        refine s_oldld (q := 663) dL_law_662 rfl hxs (inB_in hg91) ?_
        obtain ⟨q92, hc92, h⟩ := bnd h
        try dsimp only at h
        refine t_callV (q := 666) (N := mX5_dark) (a := eB E + 0) [.int (xs (x3 + 1).toNatClampNeg)] dL_law_663 rfl nkX5_dark vkX5_dark lL_68 ⟨Nat.le_of_ble_eq_true rfl, Nat.le_of_ble_eq_true rfl⟩ (rc_obj (k := 0) rfl rfl) rfl rfl (Nat.le_of_ble_eq_true rfl) (Nat.le_of_ble_eq_true rfl) (T_X5_dark_0 E _ hc92) ?_
        refine s_aload_n (q := 667) dL_law_666 rfl rfl 2 rfl ?_
        refine s_aload_n (q := 668) dL_law_667 rfl rfl 0 rfl ?_
        refine s_iload_n (q := 669) dL_law_668 rfl rfl 3 rfl ?_
        refine s_iconst (q := 670) (v := 1) dL_law_669 rfl rfl ?_
        refine s_iadd (q := 671) dL_law_670 rfl ?_
        obtain ⟨hg93, h⟩ := chk_some h
        refine s_oldld (q := 672) dL_law_671 rfl hxs (inB_in hg93) ?_
        obtain ⟨q94, hc94, h⟩ := bnd h
        try dsimp only at h
        refine t_callV (q := 675) (N := mX6_dark) (a := eB E + 51) [.int (xs (x3 + 1).toNatClampNeg)] dL_law_672 rfl nkX6_dark vkX6_dark lL_71 ⟨Nat.le_of_ble_eq_true rfl, Nat.le_of_ble_eq_true rfl⟩ (rc_obj (k := 51) rfl rfl) rfl rfl (Nat.le_of_ble_eq_true rfl) (Nat.le_of_ble_eq_true rfl) (T_X6_dark_51 E _ hc94) ?_
        refine s_icmp_eq (q := 678) (tgt := 1649) dL_law_675 rfl rfl (fun hb95 => ?_) (fun hb95 => ?_)
        · rw [if_pos hb95] at h
          refine s_iinc (q := 1652) (j := 3) (v := (x3 + 6)) (lv' := [(3, .int (x3 + 6)), (0, .ref xb), (1, .ref (eB E + 0)), (2, .ref (eB E + 51))]) dL_law_1649 rfl rfl rfl (Nat.le_of_ble_eq_true rfl) rfl ?_
          refine s_goto (tgt := 18) dL_law_1652 rfl ?_
          exact t_sub [1, 2, 3, 0] rfl (ih _ _ _ h)
        · rw [if_neg hb95] at h
          refine s_iconst (q := 679) (v := 0) dL_law_678 rfl rfl ?_
          obtain rfl := Option.some.inj h
          exact t_zret dL_law_679 rfl rfl rfl
      rw [if_neg hs3_13] at h
      by_cases hs3_14 : ((xs x3.toNatClampNeg) &&& 63) = 14
      · rw [if_pos hs3_14] at h
        refine s_tableIn (off := 647) (tgt := 680) dL_law_33 (by rw [hs3_14]; decide) (by rw [hs3_14]; decide) (by rw [hs3_14]; rfl) rfl ?_
        refine s_aload_n (q := 681) dL_law_680 rfl rfl 1 rfl ?_
        refine s_aload_n (q := 682) dL_law_681 rfl rfl 0 rfl ?_
        refine s_iload_n (q := 683) dL_law_682 rfl rfl 3 rfl ?_
        refine s_iconst (q := 684) (v := 1) dL_law_683 rfl rfl ?_
        refine s_iadd (q := 685) dL_law_684 rfl ?_
        obtain ⟨hg96, h⟩ := chk_some h
        refine s_oldld (q := 686) dL_law_685 rfl hxs (inB_in hg96) ?_
        obtain ⟨q97, hc97, h⟩ := bnd h
        try dsimp only at h
        refine t_callV (q := 689) (N := mX5_kindFor) (a := eB E + 0) [.int (xs (x3 + 1).toNatClampNeg)] dL_law_686 rfl nkX5_kindFor vkX5_kindFor lL_72 ⟨Nat.le_of_ble_eq_true rfl, Nat.le_of_ble_eq_true rfl⟩ (rc_obj (k := 0) rfl rfl) rfl rfl (Nat.le_of_ble_eq_true rfl) (Nat.le_of_ble_eq_true rfl) (T_X5_kindFor_0 E _ hc97) ?_
        refine s_aload_n (q := 690) dL_law_689 rfl rfl 2 rfl ?_
        refine s_aload_n (q := 691) dL_law_690 rfl rfl 0 rfl ?_
        refine s_iload_n (q := 692) dL_law_691 rfl rfl 3 rfl ?_
        refine s_iconst (q := 693) (v := 1) dL_law_692 rfl rfl ?_
        refine s_iadd (q := 694) dL_law_693 rfl ?_
        obtain ⟨hg98, h⟩ := chk_some h
        refine s_oldld (q := 695) dL_law_694 rfl hxs (inB_in hg98) ?_
        obtain ⟨q99, hc99, h⟩ := bnd h
        try dsimp only at h
        refine t_callV (q := 698) (N := mX6_kindFor) (a := eB E + 51) [.int (xs (x3 + 1).toNatClampNeg)] dL_law_695 rfl nkX6_kindFor vkX6_kindFor lL_75 ⟨Nat.le_of_ble_eq_true rfl, Nat.le_of_ble_eq_true rfl⟩ (rc_obj (k := 51) rfl rfl) rfl rfl (Nat.le_of_ble_eq_true rfl) (Nat.le_of_ble_eq_true rfl) (T_X6_kindFor_51 E _ hc99) ?_
        refine s_icmp_eq (q := 701) (tgt := 1649) dL_law_698 rfl rfl (fun hb100 => ?_) (fun hb100 => ?_)
        · rw [if_pos hb100] at h
          refine s_iinc (q := 1652) (j := 3) (v := (x3 + 6)) (lv' := [(3, .int (x3 + 6)), (0, .ref xb), (1, .ref (eB E + 0)), (2, .ref (eB E + 51))]) dL_law_1649 rfl rfl rfl (Nat.le_of_ble_eq_true rfl) rfl ?_
          refine s_goto (tgt := 18) dL_law_1652 rfl ?_
          exact t_sub [1, 2, 3, 0] rfl (ih _ _ _ h)
        · rw [if_neg hb100] at h
          refine s_iconst (q := 702) (v := 0) dL_law_701 rfl rfl ?_
          obtain rfl := Option.some.inj h
          exact t_zret dL_law_702 rfl rfl rfl
      rw [if_neg hs3_14] at h
      by_cases hs3_15 : ((xs x3.toNatClampNeg) &&& 63) = 15
      · rw [if_pos hs3_15] at h
        refine s_tableIn (off := 670) (tgt := 703) dL_law_33 (by rw [hs3_15]; decide) (by rw [hs3_15]; decide) (by rw [hs3_15]; rfl) rfl ?_
        refine s_aload_n (q := 704) dL_law_703 rfl rfl 1 rfl ?_
        refine s_aload_n (q := 705) dL_law_704 rfl rfl 0 rfl ?_
        refine s_iload_n (q := 706) dL_law_705 rfl rfl 3 rfl ?_
        refine s_iconst (q := 707) (v := 1) dL_law_706 rfl rfl ?_
        refine s_iadd (q := 708) dL_law_707 rfl ?_
        obtain ⟨hg101, h⟩ := chk_some h
        refine s_oldld (q := 709) dL_law_708 rfl hxs (inB_in hg101) ?_
        refine s_aload_n (q := 710) dL_law_709 rfl rfl 0 rfl ?_
        refine s_iload_n (q := 711) dL_law_710 rfl rfl 3 rfl ?_
        refine s_iconst (q := 712) (v := 2) dL_law_711 rfl rfl ?_
        refine s_iadd (q := 713) dL_law_712 rfl ?_
        obtain ⟨hg102, h⟩ := chk_some h
        refine s_oldld (q := 714) dL_law_713 rfl hxs (inB_in hg102) ?_
        obtain ⟨q103, hc103, h⟩ := bnd h
        try dsimp only at h
        refine t_callV (q := 717) (N := mX5_dustFor) (a := eB E + 0) [.int (xs (x3 + 1).toNatClampNeg), .int (xs (x3 + 2).toNatClampNeg)] dL_law_714 rfl nkX5_dustFor vkX5_dustFor lL_76 ⟨Nat.le_of_ble_eq_true rfl, Nat.le_of_ble_eq_true rfl⟩ (rc_obj (k := 0) rfl rfl) rfl rfl (Nat.le_of_ble_eq_true rfl) (Nat.le_of_ble_eq_true rfl) (T_X5_dustFor_0 E _ _ hc103) ?_
        refine s_aload_n (q := 718) dL_law_717 rfl rfl 2 rfl ?_
        refine s_aload_n (q := 719) dL_law_718 rfl rfl 0 rfl ?_
        refine s_iload_n (q := 720) dL_law_719 rfl rfl 3 rfl ?_
        refine s_iconst (q := 721) (v := 1) dL_law_720 rfl rfl ?_
        refine s_iadd (q := 722) dL_law_721 rfl ?_
        obtain ⟨hg104, h⟩ := chk_some h
        refine s_oldld (q := 723) dL_law_722 rfl hxs (inB_in hg104) ?_
        refine s_aload_n (q := 724) dL_law_723 rfl rfl 0 rfl ?_
        refine s_iload_n (q := 725) dL_law_724 rfl rfl 3 rfl ?_
        refine s_iconst (q := 726) (v := 2) dL_law_725 rfl rfl ?_
        refine s_iadd (q := 727) dL_law_726 rfl ?_
        obtain ⟨hg105, h⟩ := chk_some h
        refine s_oldld (q := 728) dL_law_727 rfl hxs (inB_in hg105) ?_
        obtain ⟨q106, hc106, h⟩ := bnd h
        try dsimp only at h
        refine t_callV (q := 731) (N := mX6_dustFor) (a := eB E + 51) [.int (xs (x3 + 1).toNatClampNeg), .int (xs (x3 + 2).toNatClampNeg)] dL_law_728 rfl nkX6_dustFor vkX6_dustFor lL_79 ⟨Nat.le_of_ble_eq_true rfl, Nat.le_of_ble_eq_true rfl⟩ (rc_obj (k := 51) rfl rfl) rfl rfl (Nat.le_of_ble_eq_true rfl) (Nat.le_of_ble_eq_true rfl) (T_X6_dustFor_51 E _ _ hc106) ?_
        refine s_icmp_eq (q := 734) (tgt := 1649) dL_law_731 rfl rfl (fun hb107 => ?_) (fun hb107 => ?_)
        · rw [if_pos hb107] at h
          refine s_iinc (q := 1652) (j := 3) (v := (x3 + 6)) (lv' := [(3, .int (x3 + 6)), (0, .ref xb), (1, .ref (eB E + 0)), (2, .ref (eB E + 51))]) dL_law_1649 rfl rfl rfl (Nat.le_of_ble_eq_true rfl) rfl ?_
          refine s_goto (tgt := 18) dL_law_1652 rfl ?_
          exact t_sub [1, 2, 3, 0] rfl (ih _ _ _ h)
        · rw [if_neg hb107] at h
          refine s_iconst (q := 735) (v := 0) dL_law_734 rfl rfl ?_
          obtain rfl := Option.some.inj h
          exact t_zret dL_law_735 rfl rfl rfl
      rw [if_neg hs3_15] at h
      by_cases hs3_16 : ((xs x3.toNatClampNeg) &&& 63) = 16
      · rw [if_pos hs3_16] at h
        refine s_tableIn (off := 703) (tgt := 736) dL_law_33 (by rw [hs3_16]; decide) (by rw [hs3_16]; decide) (by rw [hs3_16]; rfl) rfl ?_
        refine s_aload_n (q := 737) dL_law_736 rfl rfl 1 rfl ?_
        refine s_aload_n (q := 738) dL_law_737 rfl rfl 0 rfl ?_
        refine s_iload_n (q := 739) dL_law_738 rfl rfl 3 rfl ?_
        refine s_iconst (q := 740) (v := 1) dL_law_739 rfl rfl ?_
        refine s_iadd (q := 741) dL_law_740 rfl ?_
        obtain ⟨hg108, h⟩ := chk_some h
        refine s_oldld (q := 742) dL_law_741 rfl hxs (inB_in hg108) ?_
        obtain ⟨q109, hc109, h⟩ := bnd h
        try dsimp only at h
        refine t_callV (q := 745) (N := mX5_uses) (a := eB E + 0) [.int (xs (x3 + 1).toNatClampNeg)] dL_law_742 rfl nkX5_uses vkX5_uses lL_80 ⟨Nat.le_of_ble_eq_true rfl, Nat.le_of_ble_eq_true rfl⟩ (rc_obj (k := 0) rfl rfl) rfl rfl (Nat.le_of_ble_eq_true rfl) (Nat.le_of_ble_eq_true rfl) (T_X5_uses_0 E _ hc109) ?_
        refine s_aload_n (q := 746) dL_law_745 rfl rfl 2 rfl ?_
        refine s_aload_n (q := 747) dL_law_746 rfl rfl 0 rfl ?_
        refine s_iload_n (q := 748) dL_law_747 rfl rfl 3 rfl ?_
        refine s_iconst (q := 749) (v := 1) dL_law_748 rfl rfl ?_
        refine s_iadd (q := 750) dL_law_749 rfl ?_
        obtain ⟨hg110, h⟩ := chk_some h
        refine s_oldld (q := 751) dL_law_750 rfl hxs (inB_in hg110) ?_
        obtain ⟨q111, hc111, h⟩ := bnd h
        try dsimp only at h
        refine t_callV (q := 754) (N := mX6_uses) (a := eB E + 51) [.int (xs (x3 + 1).toNatClampNeg)] dL_law_751 rfl nkX6_uses vkX6_uses lL_83 ⟨Nat.le_of_ble_eq_true rfl, Nat.le_of_ble_eq_true rfl⟩ (rc_obj (k := 51) rfl rfl) rfl rfl (Nat.le_of_ble_eq_true rfl) (Nat.le_of_ble_eq_true rfl) (T_X6_uses_51 E _ hc111) ?_
        refine s_icmp_eq (q := 757) (tgt := 1649) dL_law_754 rfl rfl (fun hb112 => ?_) (fun hb112 => ?_)
        · rw [if_pos hb112] at h
          refine s_iinc (q := 1652) (j := 3) (v := (x3 + 6)) (lv' := [(3, .int (x3 + 6)), (0, .ref xb), (1, .ref (eB E + 0)), (2, .ref (eB E + 51))]) dL_law_1649 rfl rfl rfl (Nat.le_of_ble_eq_true rfl) rfl ?_
          refine s_goto (tgt := 18) dL_law_1652 rfl ?_
          exact t_sub [1, 2, 3, 0] rfl (ih _ _ _ h)
        · rw [if_neg hb112] at h
          refine s_iconst (q := 758) (v := 0) dL_law_757 rfl rfl ?_
          obtain rfl := Option.some.inj h
          exact t_zret dL_law_758 rfl rfl rfl
      rw [if_neg hs3_16] at h
      by_cases hs3_17 : ((xs x3.toNatClampNeg) &&& 63) = 17
      · rw [if_pos hs3_17] at h
        refine s_tableIn (off := 726) (tgt := 759) dL_law_33 (by rw [hs3_17]; decide) (by rw [hs3_17]; decide) (by rw [hs3_17]; rfl) rfl ?_
        refine s_aload_n (q := 760) dL_law_759 rfl rfl 1 rfl ?_
        refine s_aload_n (q := 761) dL_law_760 rfl rfl 0 rfl ?_
        refine s_iload_n (q := 762) dL_law_761 rfl rfl 3 rfl ?_
        refine s_iconst (q := 763) (v := 1) dL_law_762 rfl rfl ?_
        refine s_iadd (q := 764) dL_law_763 rfl ?_
        obtain ⟨hg113, h⟩ := chk_some h
        refine s_oldld (q := 765) dL_law_764 rfl hxs (inB_in hg113) ?_
        refine s_aload_n (q := 766) dL_law_765 rfl rfl 0 rfl ?_
        refine s_iload_n (q := 767) dL_law_766 rfl rfl 3 rfl ?_
        refine s_iconst (q := 768) (v := 2) dL_law_767 rfl rfl ?_
        refine s_iadd (q := 769) dL_law_768 rfl ?_
        obtain ⟨hg114, h⟩ := chk_some h
        refine s_oldld (q := 770) dL_law_769 rfl hxs (inB_in hg114) ?_
        obtain ⟨q115, hc115, h⟩ := bnd h
        try dsimp only at h
        refine t_callV (q := 773) (N := mX5_round) (a := eB E + 0) [.int (xs (x3 + 1).toNatClampNeg), .int (xs (x3 + 2).toNatClampNeg)] dL_law_770 rfl nkX5_round vkX5_round lL_84 ⟨Nat.le_of_ble_eq_true rfl, Nat.le_of_ble_eq_true rfl⟩ (rc_obj (k := 0) rfl rfl) rfl rfl (Nat.le_of_ble_eq_true rfl) (Nat.le_of_ble_eq_true rfl) (T_X5_round_0 E _ _ hc115) ?_
        refine s_aload_n (q := 774) dL_law_773 rfl rfl 2 rfl ?_
        refine s_aload_n (q := 775) dL_law_774 rfl rfl 0 rfl ?_
        refine s_iload_n (q := 776) dL_law_775 rfl rfl 3 rfl ?_
        refine s_iconst (q := 777) (v := 1) dL_law_776 rfl rfl ?_
        refine s_iadd (q := 778) dL_law_777 rfl ?_
        obtain ⟨hg116, h⟩ := chk_some h
        refine s_oldld (q := 779) dL_law_778 rfl hxs (inB_in hg116) ?_
        refine s_aload_n (q := 780) dL_law_779 rfl rfl 0 rfl ?_
        refine s_iload_n (q := 781) dL_law_780 rfl rfl 3 rfl ?_
        refine s_iconst (q := 782) (v := 2) dL_law_781 rfl rfl ?_
        refine s_iadd (q := 783) dL_law_782 rfl ?_
        obtain ⟨hg117, h⟩ := chk_some h
        refine s_oldld (q := 784) dL_law_783 rfl hxs (inB_in hg117) ?_
        obtain ⟨q118, hc118, h⟩ := bnd h
        try dsimp only at h
        refine t_callV (q := 787) (N := mX6_round) (a := eB E + 51) [.int (xs (x3 + 1).toNatClampNeg), .int (xs (x3 + 2).toNatClampNeg)] dL_law_784 rfl nkX6_round vkX6_round lL_87 ⟨Nat.le_of_ble_eq_true rfl, Nat.le_of_ble_eq_true rfl⟩ (rc_obj (k := 51) rfl rfl) rfl rfl (Nat.le_of_ble_eq_true rfl) (Nat.le_of_ble_eq_true rfl) (T_X6_round_51 E _ _ hc118) ?_
        refine s_icmp_eq (q := 790) (tgt := 1649) dL_law_787 rfl rfl (fun hb119 => ?_) (fun hb119 => ?_)
        · rw [if_pos hb119] at h
          refine s_iinc (q := 1652) (j := 3) (v := (x3 + 6)) (lv' := [(3, .int (x3 + 6)), (0, .ref xb), (1, .ref (eB E + 0)), (2, .ref (eB E + 51))]) dL_law_1649 rfl rfl rfl (Nat.le_of_ble_eq_true rfl) rfl ?_
          refine s_goto (tgt := 18) dL_law_1652 rfl ?_
          exact t_sub [1, 2, 3, 0] rfl (ih _ _ _ h)
        · rw [if_neg hb119] at h
          refine s_iconst (q := 791) (v := 0) dL_law_790 rfl rfl ?_
          obtain rfl := Option.some.inj h
          exact t_zret dL_law_791 rfl rfl rfl
      rw [if_neg hs3_17] at h
      by_cases hs3_18 : ((xs x3.toNatClampNeg) &&& 63) = 18
      · rw [if_pos hs3_18] at h
        refine s_tableIn (off := 759) (tgt := 792) dL_law_33 (by rw [hs3_18]; decide) (by rw [hs3_18]; decide) (by rw [hs3_18]; rfl) rfl ?_
        refine s_aload_n (q := 793) dL_law_792 rfl rfl 1 rfl ?_
        refine s_aload_n (q := 794) dL_law_793 rfl rfl 0 rfl ?_
        refine s_iload_n (q := 795) dL_law_794 rfl rfl 3 rfl ?_
        refine s_iconst (q := 796) (v := 1) dL_law_795 rfl rfl ?_
        refine s_iadd (q := 797) dL_law_796 rfl ?_
        obtain ⟨hg120, h⟩ := chk_some h
        refine s_oldld (q := 798) dL_law_797 rfl hxs (inB_in hg120) ?_
        obtain ⟨q121, hc121, h⟩ := bnd h
        try dsimp only at h
        refine t_callV (q := 801) (N := mX5_best) (a := eB E + 0) [.int (xs (x3 + 1).toNatClampNeg)] dL_law_798 rfl nkX5_best vkX5_best lL_88 ⟨Nat.le_of_ble_eq_true rfl, Nat.le_of_ble_eq_true rfl⟩ (rc_obj (k := 0) rfl rfl) rfl rfl (Nat.le_of_ble_eq_true rfl) (Nat.le_of_ble_eq_true rfl) (T_X5_best_0 E _ hc121) ?_
        refine s_aload_n (q := 802) dL_law_801 rfl rfl 2 rfl ?_
        refine s_aload_n (q := 803) dL_law_802 rfl rfl 0 rfl ?_
        refine s_iload_n (q := 804) dL_law_803 rfl rfl 3 rfl ?_
        refine s_iconst (q := 805) (v := 1) dL_law_804 rfl rfl ?_
        refine s_iadd (q := 806) dL_law_805 rfl ?_
        obtain ⟨hg122, h⟩ := chk_some h
        refine s_oldld (q := 807) dL_law_806 rfl hxs (inB_in hg122) ?_
        obtain ⟨q123, hc123, h⟩ := bnd h
        try dsimp only at h
        refine t_callV (q := 810) (N := mX6_best) (a := eB E + 51) [.int (xs (x3 + 1).toNatClampNeg)] dL_law_807 rfl nkX6_best vkX6_best lL_91 ⟨Nat.le_of_ble_eq_true rfl, Nat.le_of_ble_eq_true rfl⟩ (rc_obj (k := 51) rfl rfl) rfl rfl (Nat.le_of_ble_eq_true rfl) (Nat.le_of_ble_eq_true rfl) (T_X6_best_51 E _ hc123) ?_
        refine s_icmp_eq (q := 813) (tgt := 1649) dL_law_810 rfl rfl (fun hb124 => ?_) (fun hb124 => ?_)
        · rw [if_pos hb124] at h
          refine s_iinc (q := 1652) (j := 3) (v := (x3 + 6)) (lv' := [(3, .int (x3 + 6)), (0, .ref xb), (1, .ref (eB E + 0)), (2, .ref (eB E + 51))]) dL_law_1649 rfl rfl rfl (Nat.le_of_ble_eq_true rfl) rfl ?_
          refine s_goto (tgt := 18) dL_law_1652 rfl ?_
          exact t_sub [1, 2, 3, 0] rfl (ih _ _ _ h)
        · rw [if_neg hb124] at h
          refine s_iconst (q := 814) (v := 0) dL_law_813 rfl rfl ?_
          obtain rfl := Option.some.inj h
          exact t_zret dL_law_814 rfl rfl rfl
      rw [if_neg hs3_18] at h
      by_cases hs3_19 : ((xs x3.toNatClampNeg) &&& 63) = 19
      · rw [if_pos hs3_19] at h
        refine s_tableIn (off := 782) (tgt := 815) dL_law_33 (by rw [hs3_19]; decide) (by rw [hs3_19]; decide) (by rw [hs3_19]; rfl) rfl ?_
        refine s_aload_n (q := 816) dL_law_815 rfl rfl 1 rfl ?_
        refine s_aload_n (q := 817) dL_law_816 rfl rfl 0 rfl ?_
        refine s_iload_n (q := 818) dL_law_817 rfl rfl 3 rfl ?_
        refine s_iconst (q := 819) (v := 1) dL_law_818 rfl rfl ?_
        refine s_iadd (q := 820) dL_law_819 rfl ?_
        obtain ⟨hg125, h⟩ := chk_some h
        refine s_oldld (q := 821) dL_law_820 rfl hxs (inB_in hg125) ?_
        obtain ⟨q126, hc126, h⟩ := bnd h
        try dsimp only at h
        refine t_callV (q := 824) (N := mX5_bestWorth) (a := eB E + 0) [.int (xs (x3 + 1).toNatClampNeg)] dL_law_821 rfl nkX5_bestWorth vkX5_bestWorth lL_92 ⟨Nat.le_of_ble_eq_true rfl, Nat.le_of_ble_eq_true rfl⟩ (rc_obj (k := 0) rfl rfl) rfl rfl (Nat.le_of_ble_eq_true rfl) (Nat.le_of_ble_eq_true rfl) (T_X5_bestWorth_0 E _ hc126) ?_
        refine s_aload_n (q := 825) dL_law_824 rfl rfl 2 rfl ?_
        refine s_aload_n (q := 826) dL_law_825 rfl rfl 0 rfl ?_
        refine s_iload_n (q := 827) dL_law_826 rfl rfl 3 rfl ?_
        refine s_iconst (q := 828) (v := 1) dL_law_827 rfl rfl ?_
        refine s_iadd (q := 829) dL_law_828 rfl ?_
        obtain ⟨hg127, h⟩ := chk_some h
        refine s_oldld (q := 830) dL_law_829 rfl hxs (inB_in hg127) ?_
        obtain ⟨q128, hc128, h⟩ := bnd h
        try dsimp only at h
        refine t_callV (q := 833) (N := mX6_bestWorth) (a := eB E + 51) [.int (xs (x3 + 1).toNatClampNeg)] dL_law_830 rfl nkX6_bestWorth vkX6_bestWorth lL_95 ⟨Nat.le_of_ble_eq_true rfl, Nat.le_of_ble_eq_true rfl⟩ (rc_obj (k := 51) rfl rfl) rfl rfl (Nat.le_of_ble_eq_true rfl) (Nat.le_of_ble_eq_true rfl) (T_X6_bestWorth_51 E _ hc128) ?_
        refine s_icmp_eq (q := 836) (tgt := 1649) dL_law_833 rfl rfl (fun hb129 => ?_) (fun hb129 => ?_)
        · rw [if_pos hb129] at h
          refine s_iinc (q := 1652) (j := 3) (v := (x3 + 6)) (lv' := [(3, .int (x3 + 6)), (0, .ref xb), (1, .ref (eB E + 0)), (2, .ref (eB E + 51))]) dL_law_1649 rfl rfl rfl (Nat.le_of_ble_eq_true rfl) rfl ?_
          refine s_goto (tgt := 18) dL_law_1652 rfl ?_
          exact t_sub [1, 2, 3, 0] rfl (ih _ _ _ h)
        · rw [if_neg hb129] at h
          refine s_iconst (q := 837) (v := 0) dL_law_836 rfl rfl ?_
          obtain rfl := Option.some.inj h
          exact t_zret dL_law_837 rfl rfl rfl
      rw [if_neg hs3_19] at h
      by_cases hs3_20 : ((xs x3.toNatClampNeg) &&& 63) = 20
      · rw [if_pos hs3_20] at h
        refine s_tableIn (off := 805) (tgt := 838) dL_law_33 (by rw [hs3_20]; decide) (by rw [hs3_20]; decide) (by rw [hs3_20]; rfl) rfl ?_
        refine s_aload_n (q := 839) dL_law_838 rfl rfl 1 rfl ?_
        refine s_aload_n (q := 840) dL_law_839 rfl rfl 0 rfl ?_
        refine s_iload_n (q := 841) dL_law_840 rfl rfl 3 rfl ?_
        refine s_iconst (q := 842) (v := 1) dL_law_841 rfl rfl ?_
        refine s_iadd (q := 843) dL_law_842 rfl ?_
        obtain ⟨hg130, h⟩ := chk_some h
        refine s_oldld (q := 844) dL_law_843 rfl hxs (inB_in hg130) ?_
        refine s_aload_n (q := 845) dL_law_844 rfl rfl 0 rfl ?_
        refine s_iload_n (q := 846) dL_law_845 rfl rfl 3 rfl ?_
        refine s_iconst (q := 847) (v := 2) dL_law_846 rfl rfl ?_
        refine s_iadd (q := 848) dL_law_847 rfl ?_
        obtain ⟨hg131, h⟩ := chk_some h
        refine s_oldld (q := 849) dL_law_848 rfl hxs (inB_in hg131) ?_
        obtain ⟨q132, hc132, h⟩ := bnd h
        try dsimp only at h
        refine t_callV (q := 852) (N := mX5_from) (a := eB E + 0) [.int (xs (x3 + 1).toNatClampNeg), .int (xs (x3 + 2).toNatClampNeg)] dL_law_849 rfl nkX5_from vkX5_from lL_96 ⟨Nat.le_of_ble_eq_true rfl, Nat.le_of_ble_eq_true rfl⟩ (rc_obj (k := 0) rfl rfl) rfl rfl (Nat.le_of_ble_eq_true rfl) (Nat.le_of_ble_eq_true rfl) (T_X5_from_0 E _ _ hc132) ?_
        refine s_aload_n (q := 853) dL_law_852 rfl rfl 2 rfl ?_
        refine s_aload_n (q := 854) dL_law_853 rfl rfl 0 rfl ?_
        refine s_iload_n (q := 855) dL_law_854 rfl rfl 3 rfl ?_
        refine s_iconst (q := 856) (v := 1) dL_law_855 rfl rfl ?_
        refine s_iadd (q := 857) dL_law_856 rfl ?_
        obtain ⟨hg133, h⟩ := chk_some h
        refine s_oldld (q := 858) dL_law_857 rfl hxs (inB_in hg133) ?_
        refine s_aload_n (q := 859) dL_law_858 rfl rfl 0 rfl ?_
        refine s_iload_n (q := 860) dL_law_859 rfl rfl 3 rfl ?_
        refine s_iconst (q := 861) (v := 2) dL_law_860 rfl rfl ?_
        refine s_iadd (q := 862) dL_law_861 rfl ?_
        obtain ⟨hg134, h⟩ := chk_some h
        refine s_oldld (q := 863) dL_law_862 rfl hxs (inB_in hg134) ?_
        obtain ⟨q135, hc135, h⟩ := bnd h
        try dsimp only at h
        refine t_callV (q := 866) (N := mX6_from) (a := eB E + 51) [.int (xs (x3 + 1).toNatClampNeg), .int (xs (x3 + 2).toNatClampNeg)] dL_law_863 rfl nkX6_from vkX6_from lL_99 ⟨Nat.le_of_ble_eq_true rfl, Nat.le_of_ble_eq_true rfl⟩ (rc_obj (k := 51) rfl rfl) rfl rfl (Nat.le_of_ble_eq_true rfl) (Nat.le_of_ble_eq_true rfl) (T_X6_from_51 E _ _ hc135) ?_
        refine s_icmp_eq (q := 869) (tgt := 1649) dL_law_866 rfl rfl (fun hb136 => ?_) (fun hb136 => ?_)
        · rw [if_pos hb136] at h
          refine s_iinc (q := 1652) (j := 3) (v := (x3 + 6)) (lv' := [(3, .int (x3 + 6)), (0, .ref xb), (1, .ref (eB E + 0)), (2, .ref (eB E + 51))]) dL_law_1649 rfl rfl rfl (Nat.le_of_ble_eq_true rfl) rfl ?_
          refine s_goto (tgt := 18) dL_law_1652 rfl ?_
          exact t_sub [1, 2, 3, 0] rfl (ih _ _ _ h)
        · rw [if_neg hb136] at h
          refine s_iconst (q := 870) (v := 0) dL_law_869 rfl rfl ?_
          obtain rfl := Option.some.inj h
          exact t_zret dL_law_870 rfl rfl rfl
      rw [if_neg hs3_20] at h
      by_cases hs3_21 : ((xs x3.toNatClampNeg) &&& 63) = 21
      · rw [if_pos hs3_21] at h
        refine s_tableIn (off := 838) (tgt := 871) dL_law_33 (by rw [hs3_21]; decide) (by rw [hs3_21]; decide) (by rw [hs3_21]; rfl) rfl ?_
        refine s_aload_n (q := 872) dL_law_871 rfl rfl 1 rfl ?_
        refine s_aload_n (q := 873) dL_law_872 rfl rfl 0 rfl ?_
        refine s_iload_n (q := 874) dL_law_873 rfl rfl 3 rfl ?_
        refine s_iconst (q := 875) (v := 1) dL_law_874 rfl rfl ?_
        refine s_iadd (q := 876) dL_law_875 rfl ?_
        obtain ⟨hg137, h⟩ := chk_some h
        refine s_oldld (q := 877) dL_law_876 rfl hxs (inB_in hg137) ?_
        refine s_aload_n (q := 878) dL_law_877 rfl rfl 0 rfl ?_
        refine s_iload_n (q := 879) dL_law_878 rfl rfl 3 rfl ?_
        refine s_iconst (q := 880) (v := 2) dL_law_879 rfl rfl ?_
        refine s_iadd (q := 881) dL_law_880 rfl ?_
        obtain ⟨hg138, h⟩ := chk_some h
        refine s_oldld (q := 882) dL_law_881 rfl hxs (inB_in hg138) ?_
        refine s_aload_n (q := 883) dL_law_882 rfl rfl 0 rfl ?_
        refine s_iload_n (q := 884) dL_law_883 rfl rfl 3 rfl ?_
        refine s_iconst (q := 885) (v := 3) dL_law_884 rfl rfl ?_
        refine s_iadd (q := 886) dL_law_885 rfl ?_
        obtain ⟨hg139, h⟩ := chk_some h
        refine s_oldld (q := 887) dL_law_886 rfl hxs (inB_in hg139) ?_
        obtain ⟨q140, hc140, h⟩ := bnd h
        try dsimp only at h
        refine t_callV (q := 890) (N := mX5_share) (a := eB E + 0) [.int (xs (x3 + 1).toNatClampNeg), .int (xs (x3 + 2).toNatClampNeg), .int (xs (x3 + 3).toNatClampNeg)] dL_law_887 rfl nkX5_share vkX5_share lL_100 ⟨Nat.le_of_ble_eq_true rfl, Nat.le_of_ble_eq_true rfl⟩ (rc_obj (k := 0) rfl rfl) rfl rfl (Nat.le_of_ble_eq_true rfl) (Nat.le_of_ble_eq_true rfl) (T_X5_share_0 E _ _ _ hc140) ?_
        refine s_aload_n (q := 891) dL_law_890 rfl rfl 2 rfl ?_
        refine s_aload_n (q := 892) dL_law_891 rfl rfl 0 rfl ?_
        refine s_iload_n (q := 893) dL_law_892 rfl rfl 3 rfl ?_
        refine s_iconst (q := 894) (v := 1) dL_law_893 rfl rfl ?_
        refine s_iadd (q := 895) dL_law_894 rfl ?_
        obtain ⟨hg141, h⟩ := chk_some h
        refine s_oldld (q := 896) dL_law_895 rfl hxs (inB_in hg141) ?_
        refine s_aload_n (q := 897) dL_law_896 rfl rfl 0 rfl ?_
        refine s_iload_n (q := 898) dL_law_897 rfl rfl 3 rfl ?_
        refine s_iconst (q := 899) (v := 2) dL_law_898 rfl rfl ?_
        refine s_iadd (q := 900) dL_law_899 rfl ?_
        obtain ⟨hg142, h⟩ := chk_some h
        refine s_oldld (q := 901) dL_law_900 rfl hxs (inB_in hg142) ?_
        refine s_aload_n (q := 902) dL_law_901 rfl rfl 0 rfl ?_
        refine s_iload_n (q := 903) dL_law_902 rfl rfl 3 rfl ?_
        refine s_iconst (q := 904) (v := 3) dL_law_903 rfl rfl ?_
        refine s_iadd (q := 905) dL_law_904 rfl ?_
        obtain ⟨hg143, h⟩ := chk_some h
        refine s_oldld (q := 906) dL_law_905 rfl hxs (inB_in hg143) ?_
        obtain ⟨q144, hc144, h⟩ := bnd h
        try dsimp only at h
        refine t_callV (q := 909) (N := mX6_share) (a := eB E + 51) [.int (xs (x3 + 1).toNatClampNeg), .int (xs (x3 + 2).toNatClampNeg), .int (xs (x3 + 3).toNatClampNeg)] dL_law_906 rfl nkX6_share vkX6_share lL_103 ⟨Nat.le_of_ble_eq_true rfl, Nat.le_of_ble_eq_true rfl⟩ (rc_obj (k := 51) rfl rfl) rfl rfl (Nat.le_of_ble_eq_true rfl) (Nat.le_of_ble_eq_true rfl) (T_X6_share_51 E _ _ _ hc144) ?_
        refine s_icmp_eq (q := 912) (tgt := 1649) dL_law_909 rfl rfl (fun hb145 => ?_) (fun hb145 => ?_)
        · rw [if_pos hb145] at h
          refine s_iinc (q := 1652) (j := 3) (v := (x3 + 6)) (lv' := [(3, .int (x3 + 6)), (0, .ref xb), (1, .ref (eB E + 0)), (2, .ref (eB E + 51))]) dL_law_1649 rfl rfl rfl (Nat.le_of_ble_eq_true rfl) rfl ?_
          refine s_goto (tgt := 18) dL_law_1652 rfl ?_
          exact t_sub [1, 2, 3, 0] rfl (ih _ _ _ h)
        · rw [if_neg hb145] at h
          refine s_iconst (q := 913) (v := 0) dL_law_912 rfl rfl ?_
          obtain rfl := Option.some.inj h
          exact t_zret dL_law_913 rfl rfl rfl
      rw [if_neg hs3_21] at h
      by_cases hs3_22 : ((xs x3.toNatClampNeg) &&& 63) = 22
      · rw [if_pos hs3_22] at h
        refine s_tableIn (off := 881) (tgt := 914) dL_law_33 (by rw [hs3_22]; decide) (by rw [hs3_22]; decide) (by rw [hs3_22]; rfl) rfl ?_
        refine s_aload_n (q := 915) dL_law_914 rfl rfl 1 rfl ?_
        refine s_aload_n (q := 916) dL_law_915 rfl rfl 0 rfl ?_
        refine s_iload_n (q := 917) dL_law_916 rfl rfl 3 rfl ?_
        refine s_iconst (q := 918) (v := 1) dL_law_917 rfl rfl ?_
        refine s_iadd (q := 919) dL_law_918 rfl ?_
        obtain ⟨hg146, h⟩ := chk_some h
        refine s_oldld (q := 920) dL_law_919 rfl hxs (inB_in hg146) ?_
        refine s_aload_n (q := 921) dL_law_920 rfl rfl 0 rfl ?_
        refine s_iload_n (q := 922) dL_law_921 rfl rfl 3 rfl ?_
        refine s_iconst (q := 923) (v := 2) dL_law_922 rfl rfl ?_
        refine s_iadd (q := 924) dL_law_923 rfl ?_
        obtain ⟨hg147, h⟩ := chk_some h
        refine s_oldld (q := 925) dL_law_924 rfl hxs (inB_in hg147) ?_
        refine s_aload_n (q := 926) dL_law_925 rfl rfl 0 rfl ?_
        refine s_iload_n (q := 927) dL_law_926 rfl rfl 3 rfl ?_
        refine s_iconst (q := 928) (v := 3) dL_law_927 rfl rfl ?_
        refine s_iadd (q := 929) dL_law_928 rfl ?_
        obtain ⟨hg148, h⟩ := chk_some h
        refine s_oldld (q := 930) dL_law_929 rfl hxs (inB_in hg148) ?_
        obtain ⟨q149, hc149, h⟩ := bnd h
        try dsimp only at h
        refine t_callV (q := 933) (N := mX5_longer) (a := eB E + 0) [.int (xs (x3 + 1).toNatClampNeg), .int (xs (x3 + 2).toNatClampNeg), .int (xs (x3 + 3).toNatClampNeg)] dL_law_930 rfl nkX5_longer vkX5_longer lL_104 ⟨Nat.le_of_ble_eq_true rfl, Nat.le_of_ble_eq_true rfl⟩ (rc_obj (k := 0) rfl rfl) rfl rfl (Nat.le_of_ble_eq_true rfl) (Nat.le_of_ble_eq_true rfl) (T_X5_longer_0 E _ _ _ hc149) ?_
        refine s_aload_n (q := 934) dL_law_933 rfl rfl 2 rfl ?_
        refine s_aload_n (q := 935) dL_law_934 rfl rfl 0 rfl ?_
        refine s_iload_n (q := 936) dL_law_935 rfl rfl 3 rfl ?_
        refine s_iconst (q := 937) (v := 1) dL_law_936 rfl rfl ?_
        refine s_iadd (q := 938) dL_law_937 rfl ?_
        obtain ⟨hg150, h⟩ := chk_some h
        refine s_oldld (q := 939) dL_law_938 rfl hxs (inB_in hg150) ?_
        refine s_aload_n (q := 940) dL_law_939 rfl rfl 0 rfl ?_
        refine s_iload_n (q := 941) dL_law_940 rfl rfl 3 rfl ?_
        refine s_iconst (q := 942) (v := 2) dL_law_941 rfl rfl ?_
        refine s_iadd (q := 943) dL_law_942 rfl ?_
        obtain ⟨hg151, h⟩ := chk_some h
        refine s_oldld (q := 944) dL_law_943 rfl hxs (inB_in hg151) ?_
        refine s_aload_n (q := 945) dL_law_944 rfl rfl 0 rfl ?_
        refine s_iload_n (q := 946) dL_law_945 rfl rfl 3 rfl ?_
        refine s_iconst (q := 947) (v := 3) dL_law_946 rfl rfl ?_
        refine s_iadd (q := 948) dL_law_947 rfl ?_
        obtain ⟨hg152, h⟩ := chk_some h
        refine s_oldld (q := 949) dL_law_948 rfl hxs (inB_in hg152) ?_
        obtain ⟨q153, hc153, h⟩ := bnd h
        try dsimp only at h
        refine t_callV (q := 952) (N := mX6_longer) (a := eB E + 51) [.int (xs (x3 + 1).toNatClampNeg), .int (xs (x3 + 2).toNatClampNeg), .int (xs (x3 + 3).toNatClampNeg)] dL_law_949 rfl nkX6_longer vkX6_longer lL_107 ⟨Nat.le_of_ble_eq_true rfl, Nat.le_of_ble_eq_true rfl⟩ (rc_obj (k := 51) rfl rfl) rfl rfl (Nat.le_of_ble_eq_true rfl) (Nat.le_of_ble_eq_true rfl) (T_X6_longer_51 E _ _ _ hc153) ?_
        refine s_icmp_eq (q := 955) (tgt := 1649) dL_law_952 rfl rfl (fun hb154 => ?_) (fun hb154 => ?_)
        · rw [if_pos hb154] at h
          refine s_iinc (q := 1652) (j := 3) (v := (x3 + 6)) (lv' := [(3, .int (x3 + 6)), (0, .ref xb), (1, .ref (eB E + 0)), (2, .ref (eB E + 51))]) dL_law_1649 rfl rfl rfl (Nat.le_of_ble_eq_true rfl) rfl ?_
          refine s_goto (tgt := 18) dL_law_1652 rfl ?_
          exact t_sub [1, 2, 3, 0] rfl (ih _ _ _ h)
        · rw [if_neg hb154] at h
          refine s_iconst (q := 956) (v := 0) dL_law_955 rfl rfl ?_
          obtain rfl := Option.some.inj h
          exact t_zret dL_law_956 rfl rfl rfl
      rw [if_neg hs3_22] at h
      by_cases hs3_23 : ((xs x3.toNatClampNeg) &&& 63) = 23
      · rw [if_pos hs3_23] at h
        refine s_tableIn (off := 924) (tgt := 957) dL_law_33 (by rw [hs3_23]; decide) (by rw [hs3_23]; decide) (by rw [hs3_23]; rfl) rfl ?_
        refine s_aload_n (q := 958) dL_law_957 rfl rfl 1 rfl ?_
        refine s_aload_n (q := 959) dL_law_958 rfl rfl 0 rfl ?_
        refine s_iload_n (q := 960) dL_law_959 rfl rfl 3 rfl ?_
        refine s_iconst (q := 961) (v := 1) dL_law_960 rfl rfl ?_
        refine s_iadd (q := 962) dL_law_961 rfl ?_
        obtain ⟨hg155, h⟩ := chk_some h
        refine s_oldld (q := 963) dL_law_962 rfl hxs (inB_in hg155) ?_
        obtain ⟨q156, hc156, h⟩ := bnd h
        try dsimp only at h
        refine t_callV (q := 966) (N := mX5_sign) (a := eB E + 0) [.int (xs (x3 + 1).toNatClampNeg)] dL_law_963 rfl nkX5_sign vkX5_sign lL_108 ⟨Nat.le_of_ble_eq_true rfl, Nat.le_of_ble_eq_true rfl⟩ (rc_obj (k := 0) rfl rfl) rfl rfl (Nat.le_of_ble_eq_true rfl) (Nat.le_of_ble_eq_true rfl) (T_X5_sign_0 E _ hc156) ?_
        refine s_aload_n (q := 967) dL_law_966 rfl rfl 2 rfl ?_
        refine s_aload_n (q := 968) dL_law_967 rfl rfl 0 rfl ?_
        refine s_iload_n (q := 969) dL_law_968 rfl rfl 3 rfl ?_
        refine s_iconst (q := 970) (v := 1) dL_law_969 rfl rfl ?_
        refine s_iadd (q := 971) dL_law_970 rfl ?_
        obtain ⟨hg157, h⟩ := chk_some h
        refine s_oldld (q := 972) dL_law_971 rfl hxs (inB_in hg157) ?_
        obtain ⟨q158, hc158, h⟩ := bnd h
        try dsimp only at h
        refine t_callV (q := 975) (N := mX6_sign) (a := eB E + 51) [.int (xs (x3 + 1).toNatClampNeg)] dL_law_972 rfl nkX6_sign vkX6_sign lL_111 ⟨Nat.le_of_ble_eq_true rfl, Nat.le_of_ble_eq_true rfl⟩ (rc_obj (k := 51) rfl rfl) rfl rfl (Nat.le_of_ble_eq_true rfl) (Nat.le_of_ble_eq_true rfl) (T_X6_sign_51 E _ hc158) ?_
        refine s_icmp_eq (q := 978) (tgt := 1649) dL_law_975 rfl rfl (fun hb159 => ?_) (fun hb159 => ?_)
        · rw [if_pos hb159] at h
          refine s_iinc (q := 1652) (j := 3) (v := (x3 + 6)) (lv' := [(3, .int (x3 + 6)), (0, .ref xb), (1, .ref (eB E + 0)), (2, .ref (eB E + 51))]) dL_law_1649 rfl rfl rfl (Nat.le_of_ble_eq_true rfl) rfl ?_
          refine s_goto (tgt := 18) dL_law_1652 rfl ?_
          exact t_sub [1, 2, 3, 0] rfl (ih _ _ _ h)
        · rw [if_neg hb159] at h
          refine s_iconst (q := 979) (v := 0) dL_law_978 rfl rfl ?_
          obtain rfl := Option.some.inj h
          exact t_zret dL_law_979 rfl rfl rfl
      rw [if_neg hs3_23] at h
      by_cases hs3_24 : ((xs x3.toNatClampNeg) &&& 63) = 24
      · rw [if_pos hs3_24] at h
        refine s_tableIn (off := 947) (tgt := 980) dL_law_33 (by rw [hs3_24]; decide) (by rw [hs3_24]; decide) (by rw [hs3_24]; rfl) rfl ?_
        refine s_aload_n (q := 981) dL_law_980 rfl rfl 1 rfl ?_
        refine s_aload_n (q := 982) dL_law_981 rfl rfl 0 rfl ?_
        refine s_iload_n (q := 983) dL_law_982 rfl rfl 3 rfl ?_
        refine s_iconst (q := 984) (v := 1) dL_law_983 rfl rfl ?_
        refine s_iadd (q := 985) dL_law_984 rfl ?_
        obtain ⟨hg160, h⟩ := chk_some h
        refine s_oldld (q := 986) dL_law_985 rfl hxs (inB_in hg160) ?_
        obtain ⟨q161, hc161, h⟩ := bnd h
        try dsimp only at h
        refine t_callV (q := 989) (N := mX5_signOf) (a := eB E + 0) [.int (xs (x3 + 1).toNatClampNeg)] dL_law_986 rfl nkX5_signOf vkX5_signOf lL_112 ⟨Nat.le_of_ble_eq_true rfl, Nat.le_of_ble_eq_true rfl⟩ (rc_obj (k := 0) rfl rfl) rfl rfl (Nat.le_of_ble_eq_true rfl) (Nat.le_of_ble_eq_true rfl) (T_X5_signOf_0 E _ hc161) ?_
        refine s_aload_n (q := 990) dL_law_989 rfl rfl 2 rfl ?_
        refine s_aload_n (q := 991) dL_law_990 rfl rfl 0 rfl ?_
        refine s_iload_n (q := 992) dL_law_991 rfl rfl 3 rfl ?_
        refine s_iconst (q := 993) (v := 1) dL_law_992 rfl rfl ?_
        refine s_iadd (q := 994) dL_law_993 rfl ?_
        obtain ⟨hg162, h⟩ := chk_some h
        refine s_oldld (q := 995) dL_law_994 rfl hxs (inB_in hg162) ?_
        obtain ⟨q163, hc163, h⟩ := bnd h
        try dsimp only at h
        refine t_callV (q := 998) (N := mX6_signOf) (a := eB E + 51) [.int (xs (x3 + 1).toNatClampNeg)] dL_law_995 rfl nkX6_signOf vkX6_signOf lL_115 ⟨Nat.le_of_ble_eq_true rfl, Nat.le_of_ble_eq_true rfl⟩ (rc_obj (k := 51) rfl rfl) rfl rfl (Nat.le_of_ble_eq_true rfl) (Nat.le_of_ble_eq_true rfl) (T_X6_signOf_51 E _ hc163) ?_
        refine s_icmp_eq (q := 1001) (tgt := 1649) dL_law_998 rfl rfl (fun hb164 => ?_) (fun hb164 => ?_)
        · rw [if_pos hb164] at h
          refine s_iinc (q := 1652) (j := 3) (v := (x3 + 6)) (lv' := [(3, .int (x3 + 6)), (0, .ref xb), (1, .ref (eB E + 0)), (2, .ref (eB E + 51))]) dL_law_1649 rfl rfl rfl (Nat.le_of_ble_eq_true rfl) rfl ?_
          refine s_goto (tgt := 18) dL_law_1652 rfl ?_
          exact t_sub [1, 2, 3, 0] rfl (ih _ _ _ h)
        · rw [if_neg hb164] at h
          refine s_iconst (q := 1002) (v := 0) dL_law_1001 rfl rfl ?_
          obtain rfl := Option.some.inj h
          exact t_zret dL_law_1002 rfl rfl rfl
      rw [if_neg hs3_24] at h
      by_cases hs3_25 : ((xs x3.toNatClampNeg) &&& 63) = 25
      · rw [if_pos hs3_25] at h
        refine s_tableIn (off := 970) (tgt := 1003) dL_law_33 (by rw [hs3_25]; decide) (by rw [hs3_25]; decide) (by rw [hs3_25]; rfl) rfl ?_
        refine s_aload_n (q := 1004) dL_law_1003 rfl rfl 1 rfl ?_
        refine s_aload_n (q := 1005) dL_law_1004 rfl rfl 0 rfl ?_
        refine s_iload_n (q := 1006) dL_law_1005 rfl rfl 3 rfl ?_
        refine s_iconst (q := 1007) (v := 1) dL_law_1006 rfl rfl ?_
        refine s_iadd (q := 1008) dL_law_1007 rfl ?_
        obtain ⟨hg165, h⟩ := chk_some h
        refine s_oldld (q := 1009) dL_law_1008 rfl hxs (inB_in hg165) ?_
        obtain ⟨q166, hc166, h⟩ := bnd h
        try dsimp only at h
        refine t_callV (q := 1012) (N := mX5_may) (a := eB E + 0) [.int (xs (x3 + 1).toNatClampNeg)] dL_law_1009 rfl nkX5_may vkX5_may lL_116 ⟨Nat.le_of_ble_eq_true rfl, Nat.le_of_ble_eq_true rfl⟩ (rc_obj (k := 0) rfl rfl) rfl rfl (Nat.le_of_ble_eq_true rfl) (Nat.le_of_ble_eq_true rfl) (T_X5_may_0 E _ hc166) ?_
        refine s_aload_n (q := 1013) dL_law_1012 rfl rfl 2 rfl ?_
        refine s_aload_n (q := 1014) dL_law_1013 rfl rfl 0 rfl ?_
        refine s_iload_n (q := 1015) dL_law_1014 rfl rfl 3 rfl ?_
        refine s_iconst (q := 1016) (v := 1) dL_law_1015 rfl rfl ?_
        refine s_iadd (q := 1017) dL_law_1016 rfl ?_
        obtain ⟨hg167, h⟩ := chk_some h
        refine s_oldld (q := 1018) dL_law_1017 rfl hxs (inB_in hg167) ?_
        obtain ⟨q168, hc168, h⟩ := bnd h
        try dsimp only at h
        refine t_callV (q := 1021) (N := mX6_may) (a := eB E + 51) [.int (xs (x3 + 1).toNatClampNeg)] dL_law_1018 rfl nkX6_may vkX6_may lL_119 ⟨Nat.le_of_ble_eq_true rfl, Nat.le_of_ble_eq_true rfl⟩ (rc_obj (k := 51) rfl rfl) rfl rfl (Nat.le_of_ble_eq_true rfl) (Nat.le_of_ble_eq_true rfl) (T_X6_may_51 E _ hc168) ?_
        refine s_icmp_eq (q := 1024) (tgt := 1649) dL_law_1021 rfl rfl (fun hb169 => ?_) (fun hb169 => ?_)
        · rw [if_pos hb169] at h
          refine s_iinc (q := 1652) (j := 3) (v := (x3 + 6)) (lv' := [(3, .int (x3 + 6)), (0, .ref xb), (1, .ref (eB E + 0)), (2, .ref (eB E + 51))]) dL_law_1649 rfl rfl rfl (Nat.le_of_ble_eq_true rfl) rfl ?_
          refine s_goto (tgt := 18) dL_law_1652 rfl ?_
          exact t_sub [1, 2, 3, 0] rfl (ih _ _ _ h)
        · rw [if_neg hb169] at h
          refine s_iconst (q := 1025) (v := 0) dL_law_1024 rfl rfl ?_
          obtain rfl := Option.some.inj h
          exact t_zret dL_law_1025 rfl rfl rfl
      rw [if_neg hs3_25] at h
      by_cases hs3_26 : ((xs x3.toNatClampNeg) &&& 63) = 26
      · rw [if_pos hs3_26] at h
        refine s_tableIn (off := 993) (tgt := 1026) dL_law_33 (by rw [hs3_26]; decide) (by rw [hs3_26]; decide) (by rw [hs3_26]; rfl) rfl ?_
        refine s_aload_n (q := 1027) dL_law_1026 rfl rfl 1 rfl ?_
        refine s_aload_n (q := 1028) dL_law_1027 rfl rfl 0 rfl ?_
        refine s_iload_n (q := 1029) dL_law_1028 rfl rfl 3 rfl ?_
        refine s_iconst (q := 1030) (v := 1) dL_law_1029 rfl rfl ?_
        refine s_iadd (q := 1031) dL_law_1030 rfl ?_
        obtain ⟨hg170, h⟩ := chk_some h
        refine s_oldld (q := 1032) dL_law_1031 rfl hxs (inB_in hg170) ?_
        obtain ⟨q171, hc171, h⟩ := bnd h
        try dsimp only at h
        refine t_callV (q := 1035) (N := mX5_tells) (a := eB E + 0) [.int (xs (x3 + 1).toNatClampNeg)] dL_law_1032 rfl nkX5_tells vkX5_tells lL_120 ⟨Nat.le_of_ble_eq_true rfl, Nat.le_of_ble_eq_true rfl⟩ (rc_obj (k := 0) rfl rfl) rfl rfl (Nat.le_of_ble_eq_true rfl) (Nat.le_of_ble_eq_true rfl) (T_X5_tells_0 E _ hc171) ?_
        refine s_aload_n (q := 1036) dL_law_1035 rfl rfl 2 rfl ?_
        refine s_aload_n (q := 1037) dL_law_1036 rfl rfl 0 rfl ?_
        refine s_iload_n (q := 1038) dL_law_1037 rfl rfl 3 rfl ?_
        refine s_iconst (q := 1039) (v := 1) dL_law_1038 rfl rfl ?_
        refine s_iadd (q := 1040) dL_law_1039 rfl ?_
        obtain ⟨hg172, h⟩ := chk_some h
        refine s_oldld (q := 1041) dL_law_1040 rfl hxs (inB_in hg172) ?_
        obtain ⟨q173, hc173, h⟩ := bnd h
        try dsimp only at h
        refine t_callV (q := 1044) (N := mX6_tells) (a := eB E + 51) [.int (xs (x3 + 1).toNatClampNeg)] dL_law_1041 rfl nkX6_tells vkX6_tells lL_123 ⟨Nat.le_of_ble_eq_true rfl, Nat.le_of_ble_eq_true rfl⟩ (rc_obj (k := 51) rfl rfl) rfl rfl (Nat.le_of_ble_eq_true rfl) (Nat.le_of_ble_eq_true rfl) (T_X6_tells_51 E _ hc173) ?_
        refine s_icmp_eq (q := 1047) (tgt := 1649) dL_law_1044 rfl rfl (fun hb174 => ?_) (fun hb174 => ?_)
        · rw [if_pos hb174] at h
          refine s_iinc (q := 1652) (j := 3) (v := (x3 + 6)) (lv' := [(3, .int (x3 + 6)), (0, .ref xb), (1, .ref (eB E + 0)), (2, .ref (eB E + 51))]) dL_law_1649 rfl rfl rfl (Nat.le_of_ble_eq_true rfl) rfl ?_
          refine s_goto (tgt := 18) dL_law_1652 rfl ?_
          exact t_sub [1, 2, 3, 0] rfl (ih _ _ _ h)
        · rw [if_neg hb174] at h
          refine s_iconst (q := 1048) (v := 0) dL_law_1047 rfl rfl ?_
          obtain rfl := Option.some.inj h
          exact t_zret dL_law_1048 rfl rfl rfl
      rw [if_neg hs3_26] at h
      by_cases hs3_27 : ((xs x3.toNatClampNeg) &&& 63) = 27
      · rw [if_pos hs3_27] at h
        refine s_tableIn (off := 1016) (tgt := 1049) dL_law_33 (by rw [hs3_27]; decide) (by rw [hs3_27]; decide) (by rw [hs3_27]; rfl) rfl ?_
        refine s_aload_n (q := 1050) dL_law_1049 rfl rfl 1 rfl ?_
        obtain ⟨q175, hc175, h⟩ := bnd h
        try dsimp only at h
        refine t_callV (q := 1053) (N := mX5_told) (a := eB E + 0) [] dL_law_1050 rfl nkX5_told vkX5_told lL_124 ⟨Nat.le_of_ble_eq_true rfl, Nat.le_of_ble_eq_true rfl⟩ (rc_obj (k := 0) rfl rfl) rfl rfl (Nat.le_of_ble_eq_true rfl) (Nat.le_of_ble_eq_true rfl) (T_X5_told_0 E  hc175) ?_
        refine s_aload_n (q := 1054) dL_law_1053 rfl rfl 2 rfl ?_
        obtain ⟨q176, hc176, h⟩ := bnd h
        try dsimp only at h
        refine t_callV (q := 1057) (N := mX6_told) (a := eB E + 51) [] dL_law_1054 rfl nkX6_told vkX6_told lL_128 ⟨Nat.le_of_ble_eq_true rfl, Nat.le_of_ble_eq_true rfl⟩ (rc_obj (k := 51) rfl rfl) rfl rfl (Nat.le_of_ble_eq_true rfl) (Nat.le_of_ble_eq_true rfl) (T_X6_told_51 E  hc176) ?_
        refine s_icmp_eq (q := 1060) (tgt := 1649) dL_law_1057 rfl rfl (fun hb177 => ?_) (fun hb177 => ?_)
        · rw [if_pos hb177] at h
          refine s_iinc (q := 1652) (j := 3) (v := (x3 + 6)) (lv' := [(3, .int (x3 + 6)), (0, .ref xb), (1, .ref (eB E + 0)), (2, .ref (eB E + 51))]) dL_law_1649 rfl rfl rfl (Nat.le_of_ble_eq_true rfl) rfl ?_
          refine s_goto (tgt := 18) dL_law_1652 rfl ?_
          exact t_sub [1, 2, 3, 0] rfl (ih _ _ _ h)
        · rw [if_neg hb177] at h
          refine s_iconst (q := 1061) (v := 0) dL_law_1060 rfl rfl ?_
          obtain rfl := Option.some.inj h
          exact t_zret dL_law_1061 rfl rfl rfl
      rw [if_neg hs3_27] at h
      by_cases hs3_28 : ((xs x3.toNatClampNeg) &&& 63) = 28
      · rw [if_pos hs3_28] at h
        refine s_tableIn (off := 1029) (tgt := 1062) dL_law_33 (by rw [hs3_28]; decide) (by rw [hs3_28]; decide) (by rw [hs3_28]; rfl) rfl ?_
        refine s_aload_n (q := 1063) dL_law_1062 rfl rfl 1 rfl ?_
        refine s_aload_n (q := 1064) dL_law_1063 rfl rfl 0 rfl ?_
        refine s_iload_n (q := 1065) dL_law_1064 rfl rfl 3 rfl ?_
        refine s_iconst (q := 1066) (v := 1) dL_law_1065 rfl rfl ?_
        refine s_iadd (q := 1067) dL_law_1066 rfl ?_
        obtain ⟨hg178, h⟩ := chk_some h
        refine s_oldld (q := 1068) dL_law_1067 rfl hxs (inB_in hg178) ?_
        obtain ⟨q179, hc179, h⟩ := bnd h
        try dsimp only at h
        refine t_callV (q := 1071) (N := mX5_steers) (a := eB E + 0) [.int (xs (x3 + 1).toNatClampNeg)] dL_law_1068 rfl nkX5_steers vkX5_steers lL_129 ⟨Nat.le_of_ble_eq_true rfl, Nat.le_of_ble_eq_true rfl⟩ (rc_obj (k := 0) rfl rfl) rfl rfl (Nat.le_of_ble_eq_true rfl) (Nat.le_of_ble_eq_true rfl) (T_X5_steers_0 E _ hc179) ?_
        refine s_aload_n (q := 1072) dL_law_1071 rfl rfl 2 rfl ?_
        refine s_aload_n (q := 1073) dL_law_1072 rfl rfl 0 rfl ?_
        refine s_iload_n (q := 1074) dL_law_1073 rfl rfl 3 rfl ?_
        refine s_iconst (q := 1075) (v := 1) dL_law_1074 rfl rfl ?_
        refine s_iadd (q := 1076) dL_law_1075 rfl ?_
        obtain ⟨hg180, h⟩ := chk_some h
        refine s_oldld (q := 1077) dL_law_1076 rfl hxs (inB_in hg180) ?_
        obtain ⟨q181, hc181, h⟩ := bnd h
        try dsimp only at h
        refine t_callV (q := 1080) (N := mX6_steers) (a := eB E + 51) [.int (xs (x3 + 1).toNatClampNeg)] dL_law_1077 rfl nkX6_steers vkX6_steers lL_132 ⟨Nat.le_of_ble_eq_true rfl, Nat.le_of_ble_eq_true rfl⟩ (rc_obj (k := 51) rfl rfl) rfl rfl (Nat.le_of_ble_eq_true rfl) (Nat.le_of_ble_eq_true rfl) (T_X6_steers_51 E _ hc181) ?_
        refine s_icmp_eq (q := 1083) (tgt := 1649) dL_law_1080 rfl rfl (fun hb182 => ?_) (fun hb182 => ?_)
        · rw [if_pos hb182] at h
          refine s_iinc (q := 1652) (j := 3) (v := (x3 + 6)) (lv' := [(3, .int (x3 + 6)), (0, .ref xb), (1, .ref (eB E + 0)), (2, .ref (eB E + 51))]) dL_law_1649 rfl rfl rfl (Nat.le_of_ble_eq_true rfl) rfl ?_
          refine s_goto (tgt := 18) dL_law_1652 rfl ?_
          exact t_sub [1, 2, 3, 0] rfl (ih _ _ _ h)
        · rw [if_neg hb182] at h
          refine s_iconst (q := 1084) (v := 0) dL_law_1083 rfl rfl ?_
          obtain rfl := Option.some.inj h
          exact t_zret dL_law_1084 rfl rfl rfl
      rw [if_neg hs3_28] at h
      by_cases hs3_29 : ((xs x3.toNatClampNeg) &&& 63) = 29
      · rw [if_pos hs3_29] at h
        refine s_tableIn (off := 1052) (tgt := 1085) dL_law_33 (by rw [hs3_29]; decide) (by rw [hs3_29]; decide) (by rw [hs3_29]; rfl) rfl ?_
        refine s_aload_n (q := 1086) dL_law_1085 rfl rfl 1 rfl ?_
        refine s_aload_n (q := 1087) dL_law_1086 rfl rfl 0 rfl ?_
        refine s_iload_n (q := 1088) dL_law_1087 rfl rfl 3 rfl ?_
        refine s_iconst (q := 1089) (v := 1) dL_law_1088 rfl rfl ?_
        refine s_iadd (q := 1090) dL_law_1089 rfl ?_
        obtain ⟨hg183, h⟩ := chk_some h
        refine s_oldld (q := 1091) dL_law_1090 rfl hxs (inB_in hg183) ?_
        obtain ⟨q184, hc184, h⟩ := bnd h
        try dsimp only at h
        refine t_callV (q := 1094) (N := mX5_sees) (a := eB E + 0) [.int (xs (x3 + 1).toNatClampNeg)] dL_law_1091 rfl nkX5_sees vkX5_sees lL_133 ⟨Nat.le_of_ble_eq_true rfl, Nat.le_of_ble_eq_true rfl⟩ (rc_obj (k := 0) rfl rfl) rfl rfl (Nat.le_of_ble_eq_true rfl) (Nat.le_of_ble_eq_true rfl) (T_X5_sees_0 E _ hc184) ?_
        refine s_aload_n (q := 1095) dL_law_1094 rfl rfl 2 rfl ?_
        refine s_aload_n (q := 1096) dL_law_1095 rfl rfl 0 rfl ?_
        refine s_iload_n (q := 1097) dL_law_1096 rfl rfl 3 rfl ?_
        refine s_iconst (q := 1098) (v := 1) dL_law_1097 rfl rfl ?_
        refine s_iadd (q := 1099) dL_law_1098 rfl ?_
        obtain ⟨hg185, h⟩ := chk_some h
        refine s_oldld (q := 1100) dL_law_1099 rfl hxs (inB_in hg185) ?_
        obtain ⟨q186, hc186, h⟩ := bnd h
        try dsimp only at h
        refine t_callV (q := 1103) (N := mX6_sees) (a := eB E + 51) [.int (xs (x3 + 1).toNatClampNeg)] dL_law_1100 rfl nkX6_sees vkX6_sees lL_136 ⟨Nat.le_of_ble_eq_true rfl, Nat.le_of_ble_eq_true rfl⟩ (rc_obj (k := 51) rfl rfl) rfl rfl (Nat.le_of_ble_eq_true rfl) (Nat.le_of_ble_eq_true rfl) (T_X6_sees_51 E _ hc186) ?_
        refine s_icmp_eq (q := 1106) (tgt := 1649) dL_law_1103 rfl rfl (fun hb187 => ?_) (fun hb187 => ?_)
        · rw [if_pos hb187] at h
          refine s_iinc (q := 1652) (j := 3) (v := (x3 + 6)) (lv' := [(3, .int (x3 + 6)), (0, .ref xb), (1, .ref (eB E + 0)), (2, .ref (eB E + 51))]) dL_law_1649 rfl rfl rfl (Nat.le_of_ble_eq_true rfl) rfl ?_
          refine s_goto (tgt := 18) dL_law_1652 rfl ?_
          exact t_sub [1, 2, 3, 0] rfl (ih _ _ _ h)
        · rw [if_neg hb187] at h
          refine s_iconst (q := 1107) (v := 0) dL_law_1106 rfl rfl ?_
          obtain rfl := Option.some.inj h
          exact t_zret dL_law_1107 rfl rfl rfl
      rw [if_neg hs3_29] at h
      by_cases hs3_30 : ((xs x3.toNatClampNeg) &&& 63) = 30
      · rw [if_pos hs3_30] at h
        refine s_tableIn (off := 1075) (tgt := 1108) dL_law_33 (by rw [hs3_30]; decide) (by rw [hs3_30]; decide) (by rw [hs3_30]; rfl) rfl ?_
        refine s_aload_n (q := 1109) dL_law_1108 rfl rfl 1 rfl ?_
        refine s_aload_n (q := 1110) dL_law_1109 rfl rfl 0 rfl ?_
        refine s_iload_n (q := 1111) dL_law_1110 rfl rfl 3 rfl ?_
        refine s_iconst (q := 1112) (v := 1) dL_law_1111 rfl rfl ?_
        refine s_iadd (q := 1113) dL_law_1112 rfl ?_
        obtain ⟨hg188, h⟩ := chk_some h
        refine s_oldld (q := 1114) dL_law_1113 rfl hxs (inB_in hg188) ?_
        obtain ⟨q189, hc189, h⟩ := bnd h
        try dsimp only at h
        refine t_callV (q := 1117) (N := mX5_which) (a := eB E + 0) [.int (xs (x3 + 1).toNatClampNeg)] dL_law_1114 rfl nkX5_which vkX5_which lL_137 ⟨Nat.le_of_ble_eq_true rfl, Nat.le_of_ble_eq_true rfl⟩ (rc_obj (k := 0) rfl rfl) rfl rfl (Nat.le_of_ble_eq_true rfl) (Nat.le_of_ble_eq_true rfl) (T_X5_which_0 E _ hc189) ?_
        refine s_aload_n (q := 1118) dL_law_1117 rfl rfl 2 rfl ?_
        refine s_aload_n (q := 1119) dL_law_1118 rfl rfl 0 rfl ?_
        refine s_iload_n (q := 1120) dL_law_1119 rfl rfl 3 rfl ?_
        refine s_iconst (q := 1121) (v := 1) dL_law_1120 rfl rfl ?_
        refine s_iadd (q := 1122) dL_law_1121 rfl ?_
        obtain ⟨hg190, h⟩ := chk_some h
        refine s_oldld (q := 1123) dL_law_1122 rfl hxs (inB_in hg190) ?_
        obtain ⟨q191, hc191, h⟩ := bnd h
        try dsimp only at h
        refine t_callV (q := 1126) (N := mX6_which) (a := eB E + 51) [.int (xs (x3 + 1).toNatClampNeg)] dL_law_1123 rfl nkX6_which vkX6_which lL_140 ⟨Nat.le_of_ble_eq_true rfl, Nat.le_of_ble_eq_true rfl⟩ (rc_obj (k := 51) rfl rfl) rfl rfl (Nat.le_of_ble_eq_true rfl) (Nat.le_of_ble_eq_true rfl) (T_X6_which_51 E _ hc191) ?_
        refine s_icmp_eq (q := 1129) (tgt := 1649) dL_law_1126 rfl rfl (fun hb192 => ?_) (fun hb192 => ?_)
        · rw [if_pos hb192] at h
          refine s_iinc (q := 1652) (j := 3) (v := (x3 + 6)) (lv' := [(3, .int (x3 + 6)), (0, .ref xb), (1, .ref (eB E + 0)), (2, .ref (eB E + 51))]) dL_law_1649 rfl rfl rfl (Nat.le_of_ble_eq_true rfl) rfl ?_
          refine s_goto (tgt := 18) dL_law_1652 rfl ?_
          exact t_sub [1, 2, 3, 0] rfl (ih _ _ _ h)
        · rw [if_neg hb192] at h
          refine s_iconst (q := 1130) (v := 0) dL_law_1129 rfl rfl ?_
          obtain rfl := Option.some.inj h
          exact t_zret dL_law_1130 rfl rfl rfl
      rw [if_neg hs3_30] at h
      by_cases hs3_31 : ((xs x3.toNatClampNeg) &&& 63) = 31
      · rw [if_pos hs3_31] at h
        refine s_tableIn (off := 1098) (tgt := 1131) dL_law_33 (by rw [hs3_31]; decide) (by rw [hs3_31]; decide) (by rw [hs3_31]; rfl) rfl ?_
        refine s_aload_n (q := 1132) dL_law_1131 rfl rfl 1 rfl ?_
        refine s_aload_n (q := 1133) dL_law_1132 rfl rfl 0 rfl ?_
        refine s_iload_n (q := 1134) dL_law_1133 rfl rfl 3 rfl ?_
        refine s_iconst (q := 1135) (v := 1) dL_law_1134 rfl rfl ?_
        refine s_iadd (q := 1136) dL_law_1135 rfl ?_
        obtain ⟨hg193, h⟩ := chk_some h
        refine s_oldld (q := 1137) dL_law_1136 rfl hxs (inB_in hg193) ?_
        refine s_aload_n (q := 1138) dL_law_1137 rfl rfl 0 rfl ?_
        refine s_iload_n (q := 1139) dL_law_1138 rfl rfl 3 rfl ?_
        refine s_iconst (q := 1140) (v := 2) dL_law_1139 rfl rfl ?_
        refine s_iadd (q := 1141) dL_law_1140 rfl ?_
        obtain ⟨hg194, h⟩ := chk_some h
        refine s_oldld (q := 1142) dL_law_1141 rfl hxs (inB_in hg194) ?_
        obtain ⟨q195, hc195, h⟩ := bnd h
        try dsimp only at h
        refine t_callV (q := 1145) (N := mX5_kinds) (a := eB E + 0) [.int (xs (x3 + 1).toNatClampNeg), .int (xs (x3 + 2).toNatClampNeg)] dL_law_1142 rfl nkX5_kinds vkX5_kinds lL_141 ⟨Nat.le_of_ble_eq_true rfl, Nat.le_of_ble_eq_true rfl⟩ (rc_obj (k := 0) rfl rfl) rfl rfl (Nat.le_of_ble_eq_true rfl) (Nat.le_of_ble_eq_true rfl) (T_X5_kinds_0 E _ _ hc195) ?_
        refine s_aload_n (q := 1146) dL_law_1145 rfl rfl 2 rfl ?_
        refine s_aload_n (q := 1147) dL_law_1146 rfl rfl 0 rfl ?_
        refine s_iload_n (q := 1148) dL_law_1147 rfl rfl 3 rfl ?_
        refine s_iconst (q := 1149) (v := 1) dL_law_1148 rfl rfl ?_
        refine s_iadd (q := 1150) dL_law_1149 rfl ?_
        obtain ⟨hg196, h⟩ := chk_some h
        refine s_oldld (q := 1151) dL_law_1150 rfl hxs (inB_in hg196) ?_
        refine s_aload_n (q := 1152) dL_law_1151 rfl rfl 0 rfl ?_
        refine s_iload_n (q := 1153) dL_law_1152 rfl rfl 3 rfl ?_
        refine s_iconst (q := 1154) (v := 2) dL_law_1153 rfl rfl ?_
        refine s_iadd (q := 1155) dL_law_1154 rfl ?_
        obtain ⟨hg197, h⟩ := chk_some h
        refine s_oldld (q := 1156) dL_law_1155 rfl hxs (inB_in hg197) ?_
        obtain ⟨q198, hc198, h⟩ := bnd h
        try dsimp only at h
        refine t_callV (q := 1159) (N := mX6_kinds) (a := eB E + 51) [.int (xs (x3 + 1).toNatClampNeg), .int (xs (x3 + 2).toNatClampNeg)] dL_law_1156 rfl nkX6_kinds vkX6_kinds lL_144 ⟨Nat.le_of_ble_eq_true rfl, Nat.le_of_ble_eq_true rfl⟩ (rc_obj (k := 51) rfl rfl) rfl rfl (Nat.le_of_ble_eq_true rfl) (Nat.le_of_ble_eq_true rfl) (T_X6_kinds_51 E _ _ hc198) ?_
        refine s_icmp_eq (q := 1162) (tgt := 1649) dL_law_1159 rfl rfl (fun hb199 => ?_) (fun hb199 => ?_)
        · rw [if_pos hb199] at h
          refine s_iinc (q := 1652) (j := 3) (v := (x3 + 6)) (lv' := [(3, .int (x3 + 6)), (0, .ref xb), (1, .ref (eB E + 0)), (2, .ref (eB E + 51))]) dL_law_1649 rfl rfl rfl (Nat.le_of_ble_eq_true rfl) rfl ?_
          refine s_goto (tgt := 18) dL_law_1652 rfl ?_
          exact t_sub [1, 2, 3, 0] rfl (ih _ _ _ h)
        · rw [if_neg hb199] at h
          refine s_iconst (q := 1163) (v := 0) dL_law_1162 rfl rfl ?_
          obtain rfl := Option.some.inj h
          exact t_zret dL_law_1163 rfl rfl rfl
      rw [if_neg hs3_31] at h
      by_cases hs3_32 : ((xs x3.toNatClampNeg) &&& 63) = 32
      · rw [if_pos hs3_32] at h
        refine s_tableIn (off := 1131) (tgt := 1164) dL_law_33 (by rw [hs3_32]; decide) (by rw [hs3_32]; decide) (by rw [hs3_32]; rfl) rfl ?_
        refine s_aload_n (q := 1165) dL_law_1164 rfl rfl 1 rfl ?_
        refine s_aload_n (q := 1166) dL_law_1165 rfl rfl 0 rfl ?_
        refine s_iload_n (q := 1167) dL_law_1166 rfl rfl 3 rfl ?_
        refine s_iconst (q := 1168) (v := 1) dL_law_1167 rfl rfl ?_
        refine s_iadd (q := 1169) dL_law_1168 rfl ?_
        obtain ⟨hg200, h⟩ := chk_some h
        refine s_oldld (q := 1170) dL_law_1169 rfl hxs (inB_in hg200) ?_
        obtain ⟨q201, hc201, h⟩ := bnd h
        try dsimp only at h
        refine t_callV (q := 1173) (N := mX5_drops) (a := eB E + 0) [.int (xs (x3 + 1).toNatClampNeg)] dL_law_1170 rfl nkX5_drops vkX5_drops lL_145 ⟨Nat.le_of_ble_eq_true rfl, Nat.le_of_ble_eq_true rfl⟩ (rc_obj (k := 0) rfl rfl) rfl rfl (Nat.le_of_ble_eq_true rfl) (Nat.le_of_ble_eq_true rfl) (T_X5_drops_0 E _ hc201) ?_
        refine s_aload_n (q := 1174) dL_law_1173 rfl rfl 2 rfl ?_
        refine s_aload_n (q := 1175) dL_law_1174 rfl rfl 0 rfl ?_
        refine s_iload_n (q := 1176) dL_law_1175 rfl rfl 3 rfl ?_
        refine s_iconst (q := 1177) (v := 1) dL_law_1176 rfl rfl ?_
        refine s_iadd (q := 1178) dL_law_1177 rfl ?_
        obtain ⟨hg202, h⟩ := chk_some h
        refine s_oldld (q := 1179) dL_law_1178 rfl hxs (inB_in hg202) ?_
        obtain ⟨q203, hc203, h⟩ := bnd h
        try dsimp only at h
        refine t_callV (q := 1182) (N := mX6_drops) (a := eB E + 51) [.int (xs (x3 + 1).toNatClampNeg)] dL_law_1179 rfl nkX6_drops vkX6_drops lL_148 ⟨Nat.le_of_ble_eq_true rfl, Nat.le_of_ble_eq_true rfl⟩ (rc_obj (k := 51) rfl rfl) rfl rfl (Nat.le_of_ble_eq_true rfl) (Nat.le_of_ble_eq_true rfl) (T_X6_drops_51 E _ hc203) ?_
        refine s_icmp_eq (q := 1185) (tgt := 1649) dL_law_1182 rfl rfl (fun hb204 => ?_) (fun hb204 => ?_)
        · rw [if_pos hb204] at h
          refine s_iinc (q := 1652) (j := 3) (v := (x3 + 6)) (lv' := [(3, .int (x3 + 6)), (0, .ref xb), (1, .ref (eB E + 0)), (2, .ref (eB E + 51))]) dL_law_1649 rfl rfl rfl (Nat.le_of_ble_eq_true rfl) rfl ?_
          refine s_goto (tgt := 18) dL_law_1652 rfl ?_
          exact t_sub [1, 2, 3, 0] rfl (ih _ _ _ h)
        · rw [if_neg hb204] at h
          refine s_iconst (q := 1186) (v := 0) dL_law_1185 rfl rfl ?_
          obtain rfl := Option.some.inj h
          exact t_zret dL_law_1186 rfl rfl rfl
      rw [if_neg hs3_32] at h
      by_cases hs3_33 : ((xs x3.toNatClampNeg) &&& 63) = 33
      · rw [if_pos hs3_33] at h
        refine s_tableIn (off := 1154) (tgt := 1187) dL_law_33 (by rw [hs3_33]; decide) (by rw [hs3_33]; decide) (by rw [hs3_33]; rfl) rfl ?_
        refine s_aload_n (q := 1188) dL_law_1187 rfl rfl 1 rfl ?_
        refine s_aload_n (q := 1189) dL_law_1188 rfl rfl 0 rfl ?_
        refine s_iload_n (q := 1190) dL_law_1189 rfl rfl 3 rfl ?_
        refine s_iconst (q := 1191) (v := 1) dL_law_1190 rfl rfl ?_
        refine s_iadd (q := 1192) dL_law_1191 rfl ?_
        obtain ⟨hg205, h⟩ := chk_some h
        refine s_oldld (q := 1193) dL_law_1192 rfl hxs (inB_in hg205) ?_
        refine s_aload_n (q := 1194) dL_law_1193 rfl rfl 0 rfl ?_
        refine s_iload_n (q := 1195) dL_law_1194 rfl rfl 3 rfl ?_
        refine s_iconst (q := 1196) (v := 2) dL_law_1195 rfl rfl ?_
        refine s_iadd (q := 1197) dL_law_1196 rfl ?_
        obtain ⟨hg206, h⟩ := chk_some h
        refine s_oldld (q := 1198) dL_law_1197 rfl hxs (inB_in hg206) ?_
        obtain ⟨q207, hc207, h⟩ := bnd h
        try dsimp only at h
        refine t_callV (q := 1201) (N := mX5_odds) (a := eB E + 0) [.int (xs (x3 + 1).toNatClampNeg), .int (xs (x3 + 2).toNatClampNeg)] dL_law_1198 rfl nkX5_odds vkX5_odds lL_149 ⟨Nat.le_of_ble_eq_true rfl, Nat.le_of_ble_eq_true rfl⟩ (rc_obj (k := 0) rfl rfl) rfl rfl (Nat.le_of_ble_eq_true rfl) (Nat.le_of_ble_eq_true rfl) (T_X5_odds_0 E _ _ hc207) ?_
        refine s_aload_n (q := 1202) dL_law_1201 rfl rfl 2 rfl ?_
        refine s_aload_n (q := 1203) dL_law_1202 rfl rfl 0 rfl ?_
        refine s_iload_n (q := 1204) dL_law_1203 rfl rfl 3 rfl ?_
        refine s_iconst (q := 1205) (v := 1) dL_law_1204 rfl rfl ?_
        refine s_iadd (q := 1206) dL_law_1205 rfl ?_
        obtain ⟨hg208, h⟩ := chk_some h
        refine s_oldld (q := 1207) dL_law_1206 rfl hxs (inB_in hg208) ?_
        refine s_aload_n (q := 1208) dL_law_1207 rfl rfl 0 rfl ?_
        refine s_iload_n (q := 1209) dL_law_1208 rfl rfl 3 rfl ?_
        refine s_iconst (q := 1210) (v := 2) dL_law_1209 rfl rfl ?_
        refine s_iadd (q := 1211) dL_law_1210 rfl ?_
        obtain ⟨hg209, h⟩ := chk_some h
        refine s_oldld (q := 1212) dL_law_1211 rfl hxs (inB_in hg209) ?_
        obtain ⟨q210, hc210, h⟩ := bnd h
        try dsimp only at h
        refine t_callV (q := 1215) (N := mX6_odds) (a := eB E + 51) [.int (xs (x3 + 1).toNatClampNeg), .int (xs (x3 + 2).toNatClampNeg)] dL_law_1212 rfl nkX6_odds vkX6_odds lL_153 ⟨Nat.le_of_ble_eq_true rfl, Nat.le_of_ble_eq_true rfl⟩ (rc_obj (k := 51) rfl rfl) rfl rfl (Nat.le_of_ble_eq_true rfl) (Nat.le_of_ble_eq_true rfl) (T_X6_odds_51 E _ _ hc210) ?_
        refine s_lcmp (q := 1216) dL_law_1215 rfl ?_
        refine s_if_eq (q := 1219) (tgt := 1649) dL_law_1216 rfl rfl (fun hb211 => ?_) (fun hb211 => ?_)
        · rw [if_pos hb211] at h
          refine s_iinc (q := 1652) (j := 3) (v := (x3 + 6)) (lv' := [(3, .int (x3 + 6)), (0, .ref xb), (1, .ref (eB E + 0)), (2, .ref (eB E + 51))]) dL_law_1649 rfl rfl rfl (Nat.le_of_ble_eq_true rfl) rfl ?_
          refine s_goto (tgt := 18) dL_law_1652 rfl ?_
          exact t_sub [1, 2, 3, 0] rfl (ih _ _ _ h)
        · rw [if_neg hb211] at h
          refine s_iconst (q := 1220) (v := 0) dL_law_1219 rfl rfl ?_
          obtain rfl := Option.some.inj h
          exact t_zret dL_law_1220 rfl rfl rfl
      rw [if_neg hs3_33] at h
      by_cases hs3_34 : ((xs x3.toNatClampNeg) &&& 63) = 34
      · rw [if_pos hs3_34] at h
        refine s_tableIn (off := 1188) (tgt := 1221) dL_law_33 (by rw [hs3_34]; decide) (by rw [hs3_34]; decide) (by rw [hs3_34]; rfl) rfl ?_
        refine s_aload_n (q := 1222) dL_law_1221 rfl rfl 1 rfl ?_
        refine s_aload_n (q := 1223) dL_law_1222 rfl rfl 0 rfl ?_
        refine s_iload_n (q := 1224) dL_law_1223 rfl rfl 3 rfl ?_
        refine s_iconst (q := 1225) (v := 1) dL_law_1224 rfl rfl ?_
        refine s_iadd (q := 1226) dL_law_1225 rfl ?_
        obtain ⟨hg212, h⟩ := chk_some h
        refine s_oldld (q := 1227) dL_law_1226 rfl hxs (inB_in hg212) ?_
        obtain ⟨q213, hc213, h⟩ := bnd h
        try dsimp only at h
        refine t_callV (q := 1230) (N := mX5_seed) (a := eB E + 0) [.int (xs (x3 + 1).toNatClampNeg)] dL_law_1227 rfl nkX5_seed vkX5_seed lL_154 ⟨Nat.le_of_ble_eq_true rfl, Nat.le_of_ble_eq_true rfl⟩ (rc_obj (k := 0) rfl rfl) rfl rfl (Nat.le_of_ble_eq_true rfl) (Nat.le_of_ble_eq_true rfl) (T_X5_seed_0 E _ hc213) ?_
        refine s_aload_n (q := 1231) dL_law_1230 rfl rfl 2 rfl ?_
        refine s_aload_n (q := 1232) dL_law_1231 rfl rfl 0 rfl ?_
        refine s_iload_n (q := 1233) dL_law_1232 rfl rfl 3 rfl ?_
        refine s_iconst (q := 1234) (v := 1) dL_law_1233 rfl rfl ?_
        refine s_iadd (q := 1235) dL_law_1234 rfl ?_
        obtain ⟨hg214, h⟩ := chk_some h
        refine s_oldld (q := 1236) dL_law_1235 rfl hxs (inB_in hg214) ?_
        obtain ⟨q215, hc215, h⟩ := bnd h
        try dsimp only at h
        refine t_callV (q := 1239) (N := mX6_seed) (a := eB E + 51) [.int (xs (x3 + 1).toNatClampNeg)] dL_law_1236 rfl nkX6_seed vkX6_seed lL_157 ⟨Nat.le_of_ble_eq_true rfl, Nat.le_of_ble_eq_true rfl⟩ (rc_obj (k := 51) rfl rfl) rfl rfl (Nat.le_of_ble_eq_true rfl) (Nat.le_of_ble_eq_true rfl) (T_X6_seed_51 E _ hc215) ?_
        refine s_icmp_eq (q := 1242) (tgt := 1649) dL_law_1239 rfl rfl (fun hb216 => ?_) (fun hb216 => ?_)
        · rw [if_pos hb216] at h
          refine s_iinc (q := 1652) (j := 3) (v := (x3 + 6)) (lv' := [(3, .int (x3 + 6)), (0, .ref xb), (1, .ref (eB E + 0)), (2, .ref (eB E + 51))]) dL_law_1649 rfl rfl rfl (Nat.le_of_ble_eq_true rfl) rfl ?_
          refine s_goto (tgt := 18) dL_law_1652 rfl ?_
          exact t_sub [1, 2, 3, 0] rfl (ih _ _ _ h)
        · rw [if_neg hb216] at h
          refine s_iconst (q := 1243) (v := 0) dL_law_1242 rfl rfl ?_
          obtain rfl := Option.some.inj h
          exact t_zret dL_law_1243 rfl rfl rfl
      rw [if_neg hs3_34] at h
      by_cases hs3_35 : ((xs x3.toNatClampNeg) &&& 63) = 35
      · rw [if_pos hs3_35] at h
        refine s_tableIn (off := 1211) (tgt := 1244) dL_law_33 (by rw [hs3_35]; decide) (by rw [hs3_35]; decide) (by rw [hs3_35]; rfl) rfl ?_
        refine s_aload_n (q := 1245) dL_law_1244 rfl rfl 1 rfl ?_
        refine s_aload_n (q := 1246) dL_law_1245 rfl rfl 0 rfl ?_
        refine s_iload_n (q := 1247) dL_law_1246 rfl rfl 3 rfl ?_
        refine s_iconst (q := 1248) (v := 1) dL_law_1247 rfl rfl ?_
        refine s_iadd (q := 1249) dL_law_1248 rfl ?_
        obtain ⟨hg217, h⟩ := chk_some h
        refine s_oldld (q := 1250) dL_law_1249 rfl hxs (inB_in hg217) ?_
        refine s_aload_n (q := 1251) dL_law_1250 rfl rfl 0 rfl ?_
        refine s_iload_n (q := 1252) dL_law_1251 rfl rfl 3 rfl ?_
        refine s_iconst (q := 1253) (v := 2) dL_law_1252 rfl rfl ?_
        refine s_iadd (q := 1254) dL_law_1253 rfl ?_
        obtain ⟨hg218, h⟩ := chk_some h
        refine s_oldld (q := 1255) dL_law_1254 rfl hxs (inB_in hg218) ?_
        obtain ⟨q219, hc219, h⟩ := bnd h
        try dsimp only at h
        refine t_callV (q := 1258) (N := mX5_feed) (a := eB E + 0) [.int (xs (x3 + 1).toNatClampNeg), .int (xs (x3 + 2).toNatClampNeg)] dL_law_1255 rfl nkX5_feed vkX5_feed lL_158 ⟨Nat.le_of_ble_eq_true rfl, Nat.le_of_ble_eq_true rfl⟩ (rc_obj (k := 0) rfl rfl) rfl rfl (Nat.le_of_ble_eq_true rfl) (Nat.le_of_ble_eq_true rfl) (T_X5_feed_0 E _ _ hc219) ?_
        refine s_aload_n (q := 1259) dL_law_1258 rfl rfl 2 rfl ?_
        refine s_aload_n (q := 1260) dL_law_1259 rfl rfl 0 rfl ?_
        refine s_iload_n (q := 1261) dL_law_1260 rfl rfl 3 rfl ?_
        refine s_iconst (q := 1262) (v := 1) dL_law_1261 rfl rfl ?_
        refine s_iadd (q := 1263) dL_law_1262 rfl ?_
        obtain ⟨hg220, h⟩ := chk_some h
        refine s_oldld (q := 1264) dL_law_1263 rfl hxs (inB_in hg220) ?_
        refine s_aload_n (q := 1265) dL_law_1264 rfl rfl 0 rfl ?_
        refine s_iload_n (q := 1266) dL_law_1265 rfl rfl 3 rfl ?_
        refine s_iconst (q := 1267) (v := 2) dL_law_1266 rfl rfl ?_
        refine s_iadd (q := 1268) dL_law_1267 rfl ?_
        obtain ⟨hg221, h⟩ := chk_some h
        refine s_oldld (q := 1269) dL_law_1268 rfl hxs (inB_in hg221) ?_
        obtain ⟨q222, hc222, h⟩ := bnd h
        try dsimp only at h
        refine t_callV (q := 1272) (N := mX6_feed) (a := eB E + 51) [.int (xs (x3 + 1).toNatClampNeg), .int (xs (x3 + 2).toNatClampNeg)] dL_law_1269 rfl nkX6_feed vkX6_feed lL_161 ⟨Nat.le_of_ble_eq_true rfl, Nat.le_of_ble_eq_true rfl⟩ (rc_obj (k := 51) rfl rfl) rfl rfl (Nat.le_of_ble_eq_true rfl) (Nat.le_of_ble_eq_true rfl) (T_X6_feed_51 E _ _ hc222) ?_
        refine s_icmp_eq (q := 1275) (tgt := 1649) dL_law_1272 rfl rfl (fun hb223 => ?_) (fun hb223 => ?_)
        · rw [if_pos hb223] at h
          refine s_iinc (q := 1652) (j := 3) (v := (x3 + 6)) (lv' := [(3, .int (x3 + 6)), (0, .ref xb), (1, .ref (eB E + 0)), (2, .ref (eB E + 51))]) dL_law_1649 rfl rfl rfl (Nat.le_of_ble_eq_true rfl) rfl ?_
          refine s_goto (tgt := 18) dL_law_1652 rfl ?_
          exact t_sub [1, 2, 3, 0] rfl (ih _ _ _ h)
        · rw [if_neg hb223] at h
          refine s_iconst (q := 1276) (v := 0) dL_law_1275 rfl rfl ?_
          obtain rfl := Option.some.inj h
          exact t_zret dL_law_1276 rfl rfl rfl
      rw [if_neg hs3_35] at h
      by_cases hs3_36 : ((xs x3.toNatClampNeg) &&& 63) = 36
      · rw [if_pos hs3_36] at h
        refine s_tableIn (off := 1244) (tgt := 1277) dL_law_33 (by rw [hs3_36]; decide) (by rw [hs3_36]; decide) (by rw [hs3_36]; rfl) rfl ?_
        refine s_aload_n (q := 1278) dL_law_1277 rfl rfl 1 rfl ?_
        obtain ⟨q224, hc224, h⟩ := bnd h
        try dsimp only at h
        refine t_callV (q := 1281) (N := mX5_wipe) (a := eB E + 0) [] dL_law_1278 rfl nkX5_wipe vkX5_wipe lL_162 ⟨Nat.le_of_ble_eq_true rfl, Nat.le_of_ble_eq_true rfl⟩ (rc_obj (k := 0) rfl rfl) rfl rfl (Nat.le_of_ble_eq_true rfl) (Nat.le_of_ble_eq_true rfl) (T_X5_wipe_0 E  hc224) ?_
        refine s_aload_n (q := 1282) dL_law_1281 rfl rfl 2 rfl ?_
        obtain ⟨q225, hc225, h⟩ := bnd h
        try dsimp only at h
        refine t_callV (q := 1285) (N := mX6_wipe) (a := eB E + 51) [] dL_law_1282 rfl nkX6_wipe vkX6_wipe lL_165 ⟨Nat.le_of_ble_eq_true rfl, Nat.le_of_ble_eq_true rfl⟩ (rc_obj (k := 51) rfl rfl) rfl rfl (Nat.le_of_ble_eq_true rfl) (Nat.le_of_ble_eq_true rfl) (T_X6_wipe_51 E  hc225) ?_
        refine s_icmp_eq (q := 1288) (tgt := 1649) dL_law_1285 rfl rfl (fun hb226 => ?_) (fun hb226 => ?_)
        · rw [if_pos hb226] at h
          refine s_iinc (q := 1652) (j := 3) (v := (x3 + 6)) (lv' := [(3, .int (x3 + 6)), (0, .ref xb), (1, .ref (eB E + 0)), (2, .ref (eB E + 51))]) dL_law_1649 rfl rfl rfl (Nat.le_of_ble_eq_true rfl) rfl ?_
          refine s_goto (tgt := 18) dL_law_1652 rfl ?_
          exact t_sub [1, 2, 3, 0] rfl (ih _ _ _ h)
        · rw [if_neg hb226] at h
          refine s_iconst (q := 1289) (v := 0) dL_law_1288 rfl rfl ?_
          obtain rfl := Option.some.inj h
          exact t_zret dL_law_1289 rfl rfl rfl
      rw [if_neg hs3_36] at h
      by_cases hs3_37 : ((xs x3.toNatClampNeg) &&& 63) = 37
      · rw [if_pos hs3_37] at h
        refine s_tableIn (off := 1257) (tgt := 1290) dL_law_33 (by rw [hs3_37]; decide) (by rw [hs3_37]; decide) (by rw [hs3_37]; rfl) rfl ?_
        refine s_aload_n (q := 1291) dL_law_1290 rfl rfl 1 rfl ?_
        obtain ⟨q227, hc227, h⟩ := bnd h
        try dsimp only at h
        refine t_callV (q := 1294) (N := mX5_text) (a := eB E + 0) [] dL_law_1291 rfl nkX5_text vkX5_text lL_166 ⟨Nat.le_of_ble_eq_true rfl, Nat.le_of_ble_eq_true rfl⟩ (rc_obj (k := 0) rfl rfl) rfl rfl (Nat.le_of_ble_eq_true rfl) (Nat.le_of_ble_eq_true rfl) (T_X5_text_0 E  hc227) ?_
        refine s_aload_n (q := 1295) dL_law_1294 rfl rfl 2 rfl ?_
        obtain ⟨q228, hc228, h⟩ := bnd h
        try dsimp only at h
        refine t_callV (q := 1298) (N := mX6_text) (a := eB E + 51) [] dL_law_1295 rfl nkX6_text vkX6_text lL_169 ⟨Nat.le_of_ble_eq_true rfl, Nat.le_of_ble_eq_true rfl⟩ (rc_obj (k := 51) rfl rfl) rfl rfl (Nat.le_of_ble_eq_true rfl) (Nat.le_of_ble_eq_true rfl) (T_X6_text_51 E  hc228) ?_
        refine s_icmp_eq (q := 1301) (tgt := 1649) dL_law_1298 rfl rfl (fun hb229 => ?_) (fun hb229 => ?_)
        · rw [if_pos hb229] at h
          refine s_iinc (q := 1652) (j := 3) (v := (x3 + 6)) (lv' := [(3, .int (x3 + 6)), (0, .ref xb), (1, .ref (eB E + 0)), (2, .ref (eB E + 51))]) dL_law_1649 rfl rfl rfl (Nat.le_of_ble_eq_true rfl) rfl ?_
          refine s_goto (tgt := 18) dL_law_1652 rfl ?_
          exact t_sub [1, 2, 3, 0] rfl (ih _ _ _ h)
        · rw [if_neg hb229] at h
          refine s_iconst (q := 1302) (v := 0) dL_law_1301 rfl rfl ?_
          obtain rfl := Option.some.inj h
          exact t_zret dL_law_1302 rfl rfl rfl
      rw [if_neg hs3_37] at h
      by_cases hs3_38 : ((xs x3.toNatClampNeg) &&& 63) = 38
      · rw [if_pos hs3_38] at h
        refine s_tableIn (off := 1270) (tgt := 1303) dL_law_33 (by rw [hs3_38]; decide) (by rw [hs3_38]; decide) (by rw [hs3_38]; rfl) rfl ?_
        refine s_aload_n (q := 1304) dL_law_1303 rfl rfl 1 rfl ?_
        refine s_aload_n (q := 1305) dL_law_1304 rfl rfl 0 rfl ?_
        refine s_iload_n (q := 1306) dL_law_1305 rfl rfl 3 rfl ?_
        refine s_iconst (q := 1307) (v := 1) dL_law_1306 rfl rfl ?_
        refine s_iadd (q := 1308) dL_law_1307 rfl ?_
        obtain ⟨hg230, h⟩ := chk_some h
        refine s_oldld (q := 1309) dL_law_1308 rfl hxs (inB_in hg230) ?_
        refine s_aload_n (q := 1310) dL_law_1309 rfl rfl 0 rfl ?_
        refine s_iload_n (q := 1311) dL_law_1310 rfl rfl 3 rfl ?_
        refine s_iconst (q := 1312) (v := 2) dL_law_1311 rfl rfl ?_
        refine s_iadd (q := 1313) dL_law_1312 rfl ?_
        obtain ⟨hg231, h⟩ := chk_some h
        refine s_oldld (q := 1314) dL_law_1313 rfl hxs (inB_in hg231) ?_
        obtain ⟨q232, hc232, h⟩ := bnd h
        try dsimp only at h
        refine t_callV (q := 1317) (N := mX5_hold) (a := eB E + 0) [.int (xs (x3 + 1).toNatClampNeg), .int (xs (x3 + 2).toNatClampNeg)] dL_law_1314 rfl nkX5_hold vkX5_hold lL_170 ⟨Nat.le_of_ble_eq_true rfl, Nat.le_of_ble_eq_true rfl⟩ (rc_obj (k := 0) rfl rfl) rfl rfl (Nat.le_of_ble_eq_true rfl) (Nat.le_of_ble_eq_true rfl) (T_X5_hold_0 E _ _ hc232) ?_
        refine s_aload_n (q := 1318) dL_law_1317 rfl rfl 2 rfl ?_
        refine s_aload_n (q := 1319) dL_law_1318 rfl rfl 0 rfl ?_
        refine s_iload_n (q := 1320) dL_law_1319 rfl rfl 3 rfl ?_
        refine s_iconst (q := 1321) (v := 1) dL_law_1320 rfl rfl ?_
        refine s_iadd (q := 1322) dL_law_1321 rfl ?_
        obtain ⟨hg233, h⟩ := chk_some h
        refine s_oldld (q := 1323) dL_law_1322 rfl hxs (inB_in hg233) ?_
        refine s_aload_n (q := 1324) dL_law_1323 rfl rfl 0 rfl ?_
        refine s_iload_n (q := 1325) dL_law_1324 rfl rfl 3 rfl ?_
        refine s_iconst (q := 1326) (v := 2) dL_law_1325 rfl rfl ?_
        refine s_iadd (q := 1327) dL_law_1326 rfl ?_
        obtain ⟨hg234, h⟩ := chk_some h
        refine s_oldld (q := 1328) dL_law_1327 rfl hxs (inB_in hg234) ?_
        obtain ⟨q235, hc235, h⟩ := bnd h
        try dsimp only at h
        refine t_callV (q := 1331) (N := mX6_hold) (a := eB E + 51) [.int (xs (x3 + 1).toNatClampNeg), .int (xs (x3 + 2).toNatClampNeg)] dL_law_1328 rfl nkX6_hold vkX6_hold lL_173 ⟨Nat.le_of_ble_eq_true rfl, Nat.le_of_ble_eq_true rfl⟩ (rc_obj (k := 51) rfl rfl) rfl rfl (Nat.le_of_ble_eq_true rfl) (Nat.le_of_ble_eq_true rfl) (T_X6_hold_51 E _ _ hc235) ?_
        refine s_icmp_eq (q := 1334) (tgt := 1649) dL_law_1331 rfl rfl (fun hb236 => ?_) (fun hb236 => ?_)
        · rw [if_pos hb236] at h
          refine s_iinc (q := 1652) (j := 3) (v := (x3 + 6)) (lv' := [(3, .int (x3 + 6)), (0, .ref xb), (1, .ref (eB E + 0)), (2, .ref (eB E + 51))]) dL_law_1649 rfl rfl rfl (Nat.le_of_ble_eq_true rfl) rfl ?_
          refine s_goto (tgt := 18) dL_law_1652 rfl ?_
          exact t_sub [1, 2, 3, 0] rfl (ih _ _ _ h)
        · rw [if_neg hb236] at h
          refine s_iconst (q := 1335) (v := 0) dL_law_1334 rfl rfl ?_
          obtain rfl := Option.some.inj h
          exact t_zret dL_law_1335 rfl rfl rfl
      rw [if_neg hs3_38] at h
      by_cases hs3_39 : ((xs x3.toNatClampNeg) &&& 63) = 39
      · rw [if_pos hs3_39] at h
        refine s_tableIn (off := 1303) (tgt := 1336) dL_law_33 (by rw [hs3_39]; decide) (by rw [hs3_39]; decide) (by rw [hs3_39]; rfl) rfl ?_
        refine s_aload_n (q := 1337) dL_law_1336 rfl rfl 1 rfl ?_
        refine s_aload_n (q := 1338) dL_law_1337 rfl rfl 0 rfl ?_
        refine s_iload_n (q := 1339) dL_law_1338 rfl rfl 3 rfl ?_
        refine s_iconst (q := 1340) (v := 1) dL_law_1339 rfl rfl ?_
        refine s_iadd (q := 1341) dL_law_1340 rfl ?_
        obtain ⟨hg237, h⟩ := chk_some h
        refine s_oldld (q := 1342) dL_law_1341 rfl hxs (inB_in hg237) ?_
        refine s_aload_n (q := 1343) dL_law_1342 rfl rfl 0 rfl ?_
        refine s_iload_n (q := 1344) dL_law_1343 rfl rfl 3 rfl ?_
        refine s_iconst (q := 1345) (v := 2) dL_law_1344 rfl rfl ?_
        refine s_iadd (q := 1346) dL_law_1345 rfl ?_
        obtain ⟨hg238, h⟩ := chk_some h
        refine s_oldld (q := 1347) dL_law_1346 rfl hxs (inB_in hg238) ?_
        obtain ⟨q239, hc239, h⟩ := bnd h
        try dsimp only at h
        refine t_callV (q := 1350) (N := mX5_as) (a := eB E + 0) [.int (xs (x3 + 1).toNatClampNeg), .int (xs (x3 + 2).toNatClampNeg)] dL_law_1347 rfl nkX5_as vkX5_as lL_174 ⟨Nat.le_of_ble_eq_true rfl, Nat.le_of_ble_eq_true rfl⟩ (rc_obj (k := 0) rfl rfl) rfl rfl (Nat.le_of_ble_eq_true rfl) (Nat.le_of_ble_eq_true rfl) (T_X5_as_0 E _ _ hc239) ?_
        refine s_aload_n (q := 1351) dL_law_1350 rfl rfl 2 rfl ?_
        refine s_aload_n (q := 1352) dL_law_1351 rfl rfl 0 rfl ?_
        refine s_iload_n (q := 1353) dL_law_1352 rfl rfl 3 rfl ?_
        refine s_iconst (q := 1354) (v := 1) dL_law_1353 rfl rfl ?_
        refine s_iadd (q := 1355) dL_law_1354 rfl ?_
        obtain ⟨hg240, h⟩ := chk_some h
        refine s_oldld (q := 1356) dL_law_1355 rfl hxs (inB_in hg240) ?_
        refine s_aload_n (q := 1357) dL_law_1356 rfl rfl 0 rfl ?_
        refine s_iload_n (q := 1358) dL_law_1357 rfl rfl 3 rfl ?_
        refine s_iconst (q := 1359) (v := 2) dL_law_1358 rfl rfl ?_
        refine s_iadd (q := 1360) dL_law_1359 rfl ?_
        obtain ⟨hg241, h⟩ := chk_some h
        refine s_oldld (q := 1361) dL_law_1360 rfl hxs (inB_in hg241) ?_
        obtain ⟨q242, hc242, h⟩ := bnd h
        try dsimp only at h
        refine t_callV (q := 1364) (N := mX6_as) (a := eB E + 51) [.int (xs (x3 + 1).toNatClampNeg), .int (xs (x3 + 2).toNatClampNeg)] dL_law_1361 rfl nkX6_as vkX6_as lL_177 ⟨Nat.le_of_ble_eq_true rfl, Nat.le_of_ble_eq_true rfl⟩ (rc_obj (k := 51) rfl rfl) rfl rfl (Nat.le_of_ble_eq_true rfl) (Nat.le_of_ble_eq_true rfl) (T_X6_as_51 E _ _ hc242) ?_
        refine s_icmp_eq (q := 1367) (tgt := 1649) dL_law_1364 rfl rfl (fun hb243 => ?_) (fun hb243 => ?_)
        · rw [if_pos hb243] at h
          refine s_iinc (q := 1652) (j := 3) (v := (x3 + 6)) (lv' := [(3, .int (x3 + 6)), (0, .ref xb), (1, .ref (eB E + 0)), (2, .ref (eB E + 51))]) dL_law_1649 rfl rfl rfl (Nat.le_of_ble_eq_true rfl) rfl ?_
          refine s_goto (tgt := 18) dL_law_1652 rfl ?_
          exact t_sub [1, 2, 3, 0] rfl (ih _ _ _ h)
        · rw [if_neg hb243] at h
          refine s_iconst (q := 1368) (v := 0) dL_law_1367 rfl rfl ?_
          obtain rfl := Option.some.inj h
          exact t_zret dL_law_1368 rfl rfl rfl
      rw [if_neg hs3_39] at h
      by_cases hs3_40 : ((xs x3.toNatClampNeg) &&& 63) = 40
      · rw [if_pos hs3_40] at h
        refine s_tableIn (off := 1336) (tgt := 1369) dL_law_33 (by rw [hs3_40]; decide) (by rw [hs3_40]; decide) (by rw [hs3_40]; rfl) rfl ?_
        refine s_aload_n (q := 1370) dL_law_1369 rfl rfl 1 rfl ?_
        refine s_aload_n (q := 1371) dL_law_1370 rfl rfl 0 rfl ?_
        refine s_iload_n (q := 1372) dL_law_1371 rfl rfl 3 rfl ?_
        refine s_iconst (q := 1373) (v := 1) dL_law_1372 rfl rfl ?_
        refine s_iadd (q := 1374) dL_law_1373 rfl ?_
        obtain ⟨hg244, h⟩ := chk_some h
        refine s_oldld (q := 1375) dL_law_1374 rfl hxs (inB_in hg244) ?_
        refine s_aload_n (q := 1376) dL_law_1375 rfl rfl 0 rfl ?_
        refine s_iload_n (q := 1377) dL_law_1376 rfl rfl 3 rfl ?_
        refine s_iconst (q := 1378) (v := 2) dL_law_1377 rfl rfl ?_
        refine s_iadd (q := 1379) dL_law_1378 rfl ?_
        obtain ⟨hg245, h⟩ := chk_some h
        refine s_oldld (q := 1380) dL_law_1379 rfl hxs (inB_in hg245) ?_
        refine s_aload_n (q := 1381) dL_law_1380 rfl rfl 0 rfl ?_
        refine s_iload_n (q := 1382) dL_law_1381 rfl rfl 3 rfl ?_
        refine s_iconst (q := 1383) (v := 3) dL_law_1382 rfl rfl ?_
        refine s_iadd (q := 1384) dL_law_1383 rfl ?_
        obtain ⟨hg246, h⟩ := chk_some h
        refine s_oldld (q := 1385) dL_law_1384 rfl hxs (inB_in hg246) ?_
        obtain ⟨q247, hc247, h⟩ := bnd h
        try dsimp only at h
        refine t_callV (q := 1388) (N := mX5_sheet) (a := eB E + 0) [.int (xs (x3 + 1).toNatClampNeg), .int (xs (x3 + 2).toNatClampNeg), .int (xs (x3 + 3).toNatClampNeg)] dL_law_1385 rfl nkX5_sheet vkX5_sheet lL_178 ⟨Nat.le_of_ble_eq_true rfl, Nat.le_of_ble_eq_true rfl⟩ (rc_obj (k := 0) rfl rfl) rfl rfl (Nat.le_of_ble_eq_true rfl) (Nat.le_of_ble_eq_true rfl) (T_X5_sheet_0 E _ _ _ hc247) ?_
        refine s_aload_n (q := 1389) dL_law_1388 rfl rfl 2 rfl ?_
        refine s_aload_n (q := 1390) dL_law_1389 rfl rfl 0 rfl ?_
        refine s_iload_n (q := 1391) dL_law_1390 rfl rfl 3 rfl ?_
        refine s_iconst (q := 1392) (v := 1) dL_law_1391 rfl rfl ?_
        refine s_iadd (q := 1393) dL_law_1392 rfl ?_
        obtain ⟨hg248, h⟩ := chk_some h
        refine s_oldld (q := 1394) dL_law_1393 rfl hxs (inB_in hg248) ?_
        refine s_aload_n (q := 1395) dL_law_1394 rfl rfl 0 rfl ?_
        refine s_iload_n (q := 1396) dL_law_1395 rfl rfl 3 rfl ?_
        refine s_iconst (q := 1397) (v := 2) dL_law_1396 rfl rfl ?_
        refine s_iadd (q := 1398) dL_law_1397 rfl ?_
        obtain ⟨hg249, h⟩ := chk_some h
        refine s_oldld (q := 1399) dL_law_1398 rfl hxs (inB_in hg249) ?_
        refine s_aload_n (q := 1400) dL_law_1399 rfl rfl 0 rfl ?_
        refine s_iload_n (q := 1401) dL_law_1400 rfl rfl 3 rfl ?_
        refine s_iconst (q := 1402) (v := 3) dL_law_1401 rfl rfl ?_
        refine s_iadd (q := 1403) dL_law_1402 rfl ?_
        obtain ⟨hg250, h⟩ := chk_some h
        refine s_oldld (q := 1404) dL_law_1403 rfl hxs (inB_in hg250) ?_
        obtain ⟨q251, hc251, h⟩ := bnd h
        try dsimp only at h
        refine t_callV (q := 1407) (N := mX6_sheet) (a := eB E + 51) [.int (xs (x3 + 1).toNatClampNeg), .int (xs (x3 + 2).toNatClampNeg), .int (xs (x3 + 3).toNatClampNeg)] dL_law_1404 rfl nkX6_sheet vkX6_sheet lL_181 ⟨Nat.le_of_ble_eq_true rfl, Nat.le_of_ble_eq_true rfl⟩ (rc_obj (k := 51) rfl rfl) rfl rfl (Nat.le_of_ble_eq_true rfl) (Nat.le_of_ble_eq_true rfl) (T_X6_sheet_51 E _ _ _ hc251) ?_
        refine s_icmp_eq (q := 1410) (tgt := 1649) dL_law_1407 rfl rfl (fun hb252 => ?_) (fun hb252 => ?_)
        · rw [if_pos hb252] at h
          refine s_iinc (q := 1652) (j := 3) (v := (x3 + 6)) (lv' := [(3, .int (x3 + 6)), (0, .ref xb), (1, .ref (eB E + 0)), (2, .ref (eB E + 51))]) dL_law_1649 rfl rfl rfl (Nat.le_of_ble_eq_true rfl) rfl ?_
          refine s_goto (tgt := 18) dL_law_1652 rfl ?_
          exact t_sub [1, 2, 3, 0] rfl (ih _ _ _ h)
        · rw [if_neg hb252] at h
          refine s_iconst (q := 1411) (v := 0) dL_law_1410 rfl rfl ?_
          obtain rfl := Option.some.inj h
          exact t_zret dL_law_1411 rfl rfl rfl
      rw [if_neg hs3_40] at h
      by_cases hs3_41 : ((xs x3.toNatClampNeg) &&& 63) = 41
      · rw [if_pos hs3_41] at h
        refine s_tableIn (off := 1379) (tgt := 1412) dL_law_33 (by rw [hs3_41]; decide) (by rw [hs3_41]; decide) (by rw [hs3_41]; rfl) rfl ?_
        refine s_aload_n (q := 1413) dL_law_1412 rfl rfl 1 rfl ?_
        refine s_aload_n (q := 1414) dL_law_1413 rfl rfl 0 rfl ?_
        refine s_iload_n (q := 1415) dL_law_1414 rfl rfl 3 rfl ?_
        refine s_iconst (q := 1416) (v := 1) dL_law_1415 rfl rfl ?_
        refine s_iadd (q := 1417) dL_law_1416 rfl ?_
        obtain ⟨hg253, h⟩ := chk_some h
        refine s_oldld (q := 1418) dL_law_1417 rfl hxs (inB_in hg253) ?_
        refine s_aload_n (q := 1419) dL_law_1418 rfl rfl 0 rfl ?_
        refine s_iload_n (q := 1420) dL_law_1419 rfl rfl 3 rfl ?_
        refine s_iconst (q := 1421) (v := 2) dL_law_1420 rfl rfl ?_
        refine s_iadd (q := 1422) dL_law_1421 rfl ?_
        obtain ⟨hg254, h⟩ := chk_some h
        refine s_oldld (q := 1423) dL_law_1422 rfl hxs (inB_in hg254) ?_
        refine s_aload_n (q := 1424) dL_law_1423 rfl rfl 0 rfl ?_
        refine s_iload_n (q := 1425) dL_law_1424 rfl rfl 3 rfl ?_
        refine s_iconst (q := 1426) (v := 3) dL_law_1425 rfl rfl ?_
        refine s_iadd (q := 1427) dL_law_1426 rfl ?_
        obtain ⟨hg255, h⟩ := chk_some h
        refine s_oldld (q := 1428) dL_law_1427 rfl hxs (inB_in hg255) ?_
        obtain ⟨q256, hc256, h⟩ := bnd h
        try dsimp only at h
        refine t_callV (q := 1431) (N := mX5_write) (a := eB E + 0) [.int (xs (x3 + 1).toNatClampNeg), .int (xs (x3 + 2).toNatClampNeg), .int (xs (x3 + 3).toNatClampNeg)] dL_law_1428 rfl nkX5_write vkX5_write lL_182 ⟨Nat.le_of_ble_eq_true rfl, Nat.le_of_ble_eq_true rfl⟩ (rc_obj (k := 0) rfl rfl) rfl rfl (Nat.le_of_ble_eq_true rfl) (Nat.le_of_ble_eq_true rfl) (T_X5_write_0 E _ _ _ hc256) ?_
        refine s_aload_n (q := 1432) dL_law_1431 rfl rfl 2 rfl ?_
        refine s_aload_n (q := 1433) dL_law_1432 rfl rfl 0 rfl ?_
        refine s_iload_n (q := 1434) dL_law_1433 rfl rfl 3 rfl ?_
        refine s_iconst (q := 1435) (v := 1) dL_law_1434 rfl rfl ?_
        refine s_iadd (q := 1436) dL_law_1435 rfl ?_
        obtain ⟨hg257, h⟩ := chk_some h
        refine s_oldld (q := 1437) dL_law_1436 rfl hxs (inB_in hg257) ?_
        refine s_aload_n (q := 1438) dL_law_1437 rfl rfl 0 rfl ?_
        refine s_iload_n (q := 1439) dL_law_1438 rfl rfl 3 rfl ?_
        refine s_iconst (q := 1440) (v := 2) dL_law_1439 rfl rfl ?_
        refine s_iadd (q := 1441) dL_law_1440 rfl ?_
        obtain ⟨hg258, h⟩ := chk_some h
        refine s_oldld (q := 1442) dL_law_1441 rfl hxs (inB_in hg258) ?_
        refine s_aload_n (q := 1443) dL_law_1442 rfl rfl 0 rfl ?_
        refine s_iload_n (q := 1444) dL_law_1443 rfl rfl 3 rfl ?_
        refine s_iconst (q := 1445) (v := 3) dL_law_1444 rfl rfl ?_
        refine s_iadd (q := 1446) dL_law_1445 rfl ?_
        obtain ⟨hg259, h⟩ := chk_some h
        refine s_oldld (q := 1447) dL_law_1446 rfl hxs (inB_in hg259) ?_
        obtain ⟨q260, hc260, h⟩ := bnd h
        try dsimp only at h
        refine t_callV (q := 1450) (N := mX6_write) (a := eB E + 51) [.int (xs (x3 + 1).toNatClampNeg), .int (xs (x3 + 2).toNatClampNeg), .int (xs (x3 + 3).toNatClampNeg)] dL_law_1447 rfl nkX6_write vkX6_write lL_185 ⟨Nat.le_of_ble_eq_true rfl, Nat.le_of_ble_eq_true rfl⟩ (rc_obj (k := 51) rfl rfl) rfl rfl (Nat.le_of_ble_eq_true rfl) (Nat.le_of_ble_eq_true rfl) (T_X6_write_51 E _ _ _ hc260) ?_
        refine s_icmp_eq (q := 1453) (tgt := 1649) dL_law_1450 rfl rfl (fun hb261 => ?_) (fun hb261 => ?_)
        · rw [if_pos hb261] at h
          refine s_iinc (q := 1652) (j := 3) (v := (x3 + 6)) (lv' := [(3, .int (x3 + 6)), (0, .ref xb), (1, .ref (eB E + 0)), (2, .ref (eB E + 51))]) dL_law_1649 rfl rfl rfl (Nat.le_of_ble_eq_true rfl) rfl ?_
          refine s_goto (tgt := 18) dL_law_1652 rfl ?_
          exact t_sub [1, 2, 3, 0] rfl (ih _ _ _ h)
        · rw [if_neg hb261] at h
          refine s_iconst (q := 1454) (v := 0) dL_law_1453 rfl rfl ?_
          obtain rfl := Option.some.inj h
          exact t_zret dL_law_1454 rfl rfl rfl
      rw [if_neg hs3_41] at h
      by_cases hs3_42 : ((xs x3.toNatClampNeg) &&& 63) = 42
      · rw [if_pos hs3_42] at h
        refine s_tableIn (off := 1422) (tgt := 1455) dL_law_33 (by rw [hs3_42]; decide) (by rw [hs3_42]; decide) (by rw [hs3_42]; rfl) rfl ?_
        refine s_aload_n (q := 1456) dL_law_1455 rfl rfl 1 rfl ?_
        refine s_aload_n (q := 1457) dL_law_1456 rfl rfl 0 rfl ?_
        refine s_iload_n (q := 1458) dL_law_1457 rfl rfl 3 rfl ?_
        refine s_iconst (q := 1459) (v := 1) dL_law_1458 rfl rfl ?_
        refine s_iadd (q := 1460) dL_law_1459 rfl ?_
        obtain ⟨hg262, h⟩ := chk_some h
        refine s_oldld (q := 1461) dL_law_1460 rfl hxs (inB_in hg262) ?_
        refine s_aload_n (q := 1462) dL_law_1461 rfl rfl 0 rfl ?_
        refine s_iload_n (q := 1463) dL_law_1462 rfl rfl 3 rfl ?_
        refine s_iconst (q := 1464) (v := 2) dL_law_1463 rfl rfl ?_
        refine s_iadd (q := 1465) dL_law_1464 rfl ?_
        obtain ⟨hg263, h⟩ := chk_some h
        refine s_oldld (q := 1466) dL_law_1465 rfl hxs (inB_in hg263) ?_
        refine s_aload_n (q := 1467) dL_law_1466 rfl rfl 0 rfl ?_
        refine s_iload_n (q := 1468) dL_law_1467 rfl rfl 3 rfl ?_
        refine s_iconst (q := 1469) (v := 3) dL_law_1468 rfl rfl ?_
        refine s_iadd (q := 1470) dL_law_1469 rfl ?_
        obtain ⟨hg264, h⟩ := chk_some h
        refine s_oldld (q := 1471) dL_law_1470 rfl hxs (inB_in hg264) ?_
        refine s_aload_n (q := 1472) dL_law_1471 rfl rfl 0 rfl ?_
        refine s_iload_n (q := 1473) dL_law_1472 rfl rfl 3 rfl ?_
        refine s_iconst (q := 1474) (v := 4) dL_law_1473 rfl rfl ?_
        refine s_iadd (q := 1475) dL_law_1474 rfl ?_
        obtain ⟨hg265, h⟩ := chk_some h
        refine s_oldld (q := 1476) dL_law_1475 rfl hxs (inB_in hg265) ?_
        refine s_aload_n (q := 1477) dL_law_1476 rfl rfl 0 rfl ?_
        refine s_iload_n (q := 1478) dL_law_1477 rfl rfl 3 rfl ?_
        refine s_iconst (q := 1479) (v := 5) dL_law_1478 rfl rfl ?_
        refine s_iadd (q := 1480) dL_law_1479 rfl ?_
        obtain ⟨hg266, h⟩ := chk_some h
        refine s_oldld (q := 1481) dL_law_1480 rfl hxs (inB_in hg266) ?_
        obtain ⟨q267, hc267, h⟩ := bnd h
        try dsimp only at h
        refine t_callV (q := 1484) (N := mX5_copy) (a := eB E + 0) [.int (xs (x3 + 1).toNatClampNeg), .int (xs (x3 + 2).toNatClampNeg), .int (xs (x3 + 3).toNatClampNeg), .int (xs (x3 + 4).toNatClampNeg), .int (xs (x3 + 5).toNatClampNeg)] dL_law_1481 rfl nkX5_copy vkX5_copy lL_186 ⟨Nat.le_of_ble_eq_true rfl, Nat.le_of_ble_eq_true rfl⟩ (rc_obj (k := 0) rfl rfl) rfl rfl (Nat.le_of_ble_eq_true rfl) (Nat.le_of_ble_eq_true rfl) (T_X5_copy_0 E _ _ _ _ _ hc267) ?_
        refine s_aload_n (q := 1485) dL_law_1484 rfl rfl 2 rfl ?_
        refine s_aload_n (q := 1486) dL_law_1485 rfl rfl 0 rfl ?_
        refine s_iload_n (q := 1487) dL_law_1486 rfl rfl 3 rfl ?_
        refine s_iconst (q := 1488) (v := 1) dL_law_1487 rfl rfl ?_
        refine s_iadd (q := 1489) dL_law_1488 rfl ?_
        obtain ⟨hg268, h⟩ := chk_some h
        refine s_oldld (q := 1490) dL_law_1489 rfl hxs (inB_in hg268) ?_
        refine s_aload_n (q := 1491) dL_law_1490 rfl rfl 0 rfl ?_
        refine s_iload_n (q := 1492) dL_law_1491 rfl rfl 3 rfl ?_
        refine s_iconst (q := 1493) (v := 2) dL_law_1492 rfl rfl ?_
        refine s_iadd (q := 1494) dL_law_1493 rfl ?_
        obtain ⟨hg269, h⟩ := chk_some h
        refine s_oldld (q := 1495) dL_law_1494 rfl hxs (inB_in hg269) ?_
        refine s_aload_n (q := 1496) dL_law_1495 rfl rfl 0 rfl ?_
        refine s_iload_n (q := 1497) dL_law_1496 rfl rfl 3 rfl ?_
        refine s_iconst (q := 1498) (v := 3) dL_law_1497 rfl rfl ?_
        refine s_iadd (q := 1499) dL_law_1498 rfl ?_
        obtain ⟨hg270, h⟩ := chk_some h
        refine s_oldld (q := 1500) dL_law_1499 rfl hxs (inB_in hg270) ?_
        refine s_aload_n (q := 1501) dL_law_1500 rfl rfl 0 rfl ?_
        refine s_iload_n (q := 1502) dL_law_1501 rfl rfl 3 rfl ?_
        refine s_iconst (q := 1503) (v := 4) dL_law_1502 rfl rfl ?_
        refine s_iadd (q := 1504) dL_law_1503 rfl ?_
        obtain ⟨hg271, h⟩ := chk_some h
        refine s_oldld (q := 1505) dL_law_1504 rfl hxs (inB_in hg271) ?_
        refine s_aload_n (q := 1506) dL_law_1505 rfl rfl 0 rfl ?_
        refine s_iload_n (q := 1507) dL_law_1506 rfl rfl 3 rfl ?_
        refine s_iconst (q := 1508) (v := 5) dL_law_1507 rfl rfl ?_
        refine s_iadd (q := 1509) dL_law_1508 rfl ?_
        obtain ⟨hg272, h⟩ := chk_some h
        refine s_oldld (q := 1510) dL_law_1509 rfl hxs (inB_in hg272) ?_
        obtain ⟨q273, hc273, h⟩ := bnd h
        try dsimp only at h
        refine t_callV (q := 1513) (N := mX6_copy) (a := eB E + 51) [.int (xs (x3 + 1).toNatClampNeg), .int (xs (x3 + 2).toNatClampNeg), .int (xs (x3 + 3).toNatClampNeg), .int (xs (x3 + 4).toNatClampNeg), .int (xs (x3 + 5).toNatClampNeg)] dL_law_1510 rfl nkX6_copy vkX6_copy lL_190 ⟨Nat.le_of_ble_eq_true rfl, Nat.le_of_ble_eq_true rfl⟩ (rc_obj (k := 51) rfl rfl) rfl rfl (Nat.le_of_ble_eq_true rfl) (Nat.le_of_ble_eq_true rfl) (T_X6_copy_51 E _ _ _ _ _ hc273) ?_
        refine s_icmp_eq (q := 1516) (tgt := 1649) dL_law_1513 rfl rfl (fun hb274 => ?_) (fun hb274 => ?_)
        · rw [if_pos hb274] at h
          refine s_iinc (q := 1652) (j := 3) (v := (x3 + 6)) (lv' := [(3, .int (x3 + 6)), (0, .ref xb), (1, .ref (eB E + 0)), (2, .ref (eB E + 51))]) dL_law_1649 rfl rfl rfl (Nat.le_of_ble_eq_true rfl) rfl ?_
          refine s_goto (tgt := 18) dL_law_1652 rfl ?_
          exact t_sub [1, 2, 3, 0] rfl (ih _ _ _ h)
        · rw [if_neg hb274] at h
          refine s_iconst (q := 1517) (v := 0) dL_law_1516 rfl rfl ?_
          obtain rfl := Option.some.inj h
          exact t_zret dL_law_1517 rfl rfl rfl
      rw [if_neg hs3_42] at h
      by_cases hs3_43 : ((xs x3.toNatClampNeg) &&& 63) = 43
      · rw [if_pos hs3_43] at h
        refine s_tableIn (off := 1485) (tgt := 1518) dL_law_33 (by rw [hs3_43]; decide) (by rw [hs3_43]; decide) (by rw [hs3_43]; rfl) rfl ?_
        refine s_aload_n (q := 1519) dL_law_1518 rfl rfl 1 rfl ?_
        refine s_aload_n (q := 1520) dL_law_1519 rfl rfl 0 rfl ?_
        refine s_iload_n (q := 1521) dL_law_1520 rfl rfl 3 rfl ?_
        refine s_iconst (q := 1522) (v := 1) dL_law_1521 rfl rfl ?_
        refine s_iadd (q := 1523) dL_law_1522 rfl ?_
        obtain ⟨hg275, h⟩ := chk_some h
        refine s_oldld (q := 1524) dL_law_1523 rfl hxs (inB_in hg275) ?_
        obtain ⟨q276, hc276, h⟩ := bnd h
        try dsimp only at h
        refine t_callV (q := 1527) (N := mX5_load) (a := eB E + 0) [.int (xs (x3 + 1).toNatClampNeg)] dL_law_1524 rfl nkX5_load vkX5_load lL_191 ⟨Nat.le_of_ble_eq_true rfl, Nat.le_of_ble_eq_true rfl⟩ (rc_obj (k := 0) rfl rfl) rfl rfl (Nat.le_of_ble_eq_true rfl) (Nat.le_of_ble_eq_true rfl) (T_X5_load_0 E _ hc276) ?_
        refine s_aload_n (q := 1528) dL_law_1527 rfl rfl 2 rfl ?_
        refine s_aload_n (q := 1529) dL_law_1528 rfl rfl 0 rfl ?_
        refine s_iload_n (q := 1530) dL_law_1529 rfl rfl 3 rfl ?_
        refine s_iconst (q := 1531) (v := 1) dL_law_1530 rfl rfl ?_
        refine s_iadd (q := 1532) dL_law_1531 rfl ?_
        obtain ⟨hg277, h⟩ := chk_some h
        refine s_oldld (q := 1533) dL_law_1532 rfl hxs (inB_in hg277) ?_
        obtain ⟨q278, hc278, h⟩ := bnd h
        try dsimp only at h
        refine t_callV (q := 1536) (N := mX6_load) (a := eB E + 51) [.int (xs (x3 + 1).toNatClampNeg)] dL_law_1533 rfl nkX6_load vkX6_load lL_194 ⟨Nat.le_of_ble_eq_true rfl, Nat.le_of_ble_eq_true rfl⟩ (rc_obj (k := 51) rfl rfl) rfl rfl (Nat.le_of_ble_eq_true rfl) (Nat.le_of_ble_eq_true rfl) (T_X6_load_51 E _ hc278) ?_
        refine s_icmp_eq (q := 1539) (tgt := 1649) dL_law_1536 rfl rfl (fun hb279 => ?_) (fun hb279 => ?_)
        · rw [if_pos hb279] at h
          refine s_iinc (q := 1652) (j := 3) (v := (x3 + 6)) (lv' := [(3, .int (x3 + 6)), (0, .ref xb), (1, .ref (eB E + 0)), (2, .ref (eB E + 51))]) dL_law_1649 rfl rfl rfl (Nat.le_of_ble_eq_true rfl) rfl ?_
          refine s_goto (tgt := 18) dL_law_1652 rfl ?_
          exact t_sub [1, 2, 3, 0] rfl (ih _ _ _ h)
        · rw [if_neg hb279] at h
          refine s_iconst (q := 1540) (v := 0) dL_law_1539 rfl rfl ?_
          obtain rfl := Option.some.inj h
          exact t_zret dL_law_1540 rfl rfl rfl
      rw [if_neg hs3_43] at h
      by_cases hs3_44 : ((xs x3.toNatClampNeg) &&& 63) = 44
      · rw [if_pos hs3_44] at h
        refine s_tableIn (off := 1508) (tgt := 1541) dL_law_33 (by rw [hs3_44]; decide) (by rw [hs3_44]; decide) (by rw [hs3_44]; rfl) rfl ?_
        refine s_aload_n (q := 1542) dL_law_1541 rfl rfl 1 rfl ?_
        refine s_aload_n (q := 1543) dL_law_1542 rfl rfl 0 rfl ?_
        refine s_iload_n (q := 1544) dL_law_1543 rfl rfl 3 rfl ?_
        refine s_iconst (q := 1545) (v := 1) dL_law_1544 rfl rfl ?_
        refine s_iadd (q := 1546) dL_law_1545 rfl ?_
        obtain ⟨hg280, h⟩ := chk_some h
        refine s_oldld (q := 1547) dL_law_1546 rfl hxs (inB_in hg280) ?_
        obtain ⟨q281, hc281, h⟩ := bnd h
        try dsimp only at h
        refine t_callV (q := 1550) (N := mX5_judge) (a := eB E + 0) [.int (xs (x3 + 1).toNatClampNeg)] dL_law_1547 rfl nkX5_judge vkX5_judge lL_195 ⟨Nat.le_of_ble_eq_true rfl, Nat.le_of_ble_eq_true rfl⟩ (rc_obj (k := 0) rfl rfl) rfl rfl (Nat.le_of_ble_eq_true rfl) (Nat.le_of_ble_eq_true rfl) (T_X5_judge_0 E _ hc281) ?_
        refine s_aload_n (q := 1551) dL_law_1550 rfl rfl 2 rfl ?_
        refine s_aload_n (q := 1552) dL_law_1551 rfl rfl 0 rfl ?_
        refine s_iload_n (q := 1553) dL_law_1552 rfl rfl 3 rfl ?_
        refine s_iconst (q := 1554) (v := 1) dL_law_1553 rfl rfl ?_
        refine s_iadd (q := 1555) dL_law_1554 rfl ?_
        obtain ⟨hg282, h⟩ := chk_some h
        refine s_oldld (q := 1556) dL_law_1555 rfl hxs (inB_in hg282) ?_
        obtain ⟨q283, hc283, h⟩ := bnd h
        try dsimp only at h
        refine t_callV (q := 1559) (N := mX6_judge) (a := eB E + 51) [.int (xs (x3 + 1).toNatClampNeg)] dL_law_1556 rfl nkX6_judge vkX6_judge lL_198 ⟨Nat.le_of_ble_eq_true rfl, Nat.le_of_ble_eq_true rfl⟩ (rc_obj (k := 51) rfl rfl) rfl rfl (Nat.le_of_ble_eq_true rfl) (Nat.le_of_ble_eq_true rfl) (T_X6_judge_51 E _ hc283) ?_
        refine s_icmp_eq (q := 1562) (tgt := 1649) dL_law_1559 rfl rfl (fun hb284 => ?_) (fun hb284 => ?_)
        · rw [if_pos hb284] at h
          refine s_iinc (q := 1652) (j := 3) (v := (x3 + 6)) (lv' := [(3, .int (x3 + 6)), (0, .ref xb), (1, .ref (eB E + 0)), (2, .ref (eB E + 51))]) dL_law_1649 rfl rfl rfl (Nat.le_of_ble_eq_true rfl) rfl ?_
          refine s_goto (tgt := 18) dL_law_1652 rfl ?_
          exact t_sub [1, 2, 3, 0] rfl (ih _ _ _ h)
        · rw [if_neg hb284] at h
          refine s_iconst (q := 1563) (v := 0) dL_law_1562 rfl rfl ?_
          obtain rfl := Option.some.inj h
          exact t_zret dL_law_1563 rfl rfl rfl
      rw [if_neg hs3_44] at h
      by_cases hs3_45 : ((xs x3.toNatClampNeg) &&& 63) = 45
      · rw [if_pos hs3_45] at h
        refine s_tableIn (off := 1531) (tgt := 1564) dL_law_33 (by rw [hs3_45]; decide) (by rw [hs3_45]; decide) (by rw [hs3_45]; rfl) rfl ?_
        refine s_aload_n (q := 1565) dL_law_1564 rfl rfl 1 rfl ?_
        obtain ⟨q285, hc285, h⟩ := bnd h
        try dsimp only at h
        refine t_callV (q := 1568) (N := mX5_image) (a := eB E + 0) [] dL_law_1565 rfl nkX5_image vkX5_image lL_199 ⟨Nat.le_of_ble_eq_true rfl, Nat.le_of_ble_eq_true rfl⟩ (rc_obj (k := 0) rfl rfl) rfl rfl (Nat.le_of_ble_eq_true rfl) (Nat.le_of_ble_eq_true rfl) (T_X5_image_0 E  hc285) ?_
        refine s_aload_n (q := 1569) dL_law_1568 rfl rfl 2 rfl ?_
        obtain ⟨q286, hc286, h⟩ := bnd h
        try dsimp only at h
        refine t_callV (q := 1572) (N := mX6_image) (a := eB E + 51) [] dL_law_1569 rfl nkX6_image vkX6_image lL_202 ⟨Nat.le_of_ble_eq_true rfl, Nat.le_of_ble_eq_true rfl⟩ (rc_obj (k := 51) rfl rfl) rfl rfl (Nat.le_of_ble_eq_true rfl) (Nat.le_of_ble_eq_true rfl) (T_X6_image_51 E  hc286) ?_
        refine s_icmp_eq (q := 1575) (tgt := 1649) dL_law_1572 rfl rfl (fun hb287 => ?_) (fun hb287 => ?_)
        · rw [if_pos hb287] at h
          refine s_iinc (q := 1652) (j := 3) (v := (x3 + 6)) (lv' := [(3, .int (x3 + 6)), (0, .ref xb), (1, .ref (eB E + 0)), (2, .ref (eB E + 51))]) dL_law_1649 rfl rfl rfl (Nat.le_of_ble_eq_true rfl) rfl ?_
          refine s_goto (tgt := 18) dL_law_1652 rfl ?_
          exact t_sub [1, 2, 3, 0] rfl (ih _ _ _ h)
        · rw [if_neg hb287] at h
          refine s_iconst (q := 1576) (v := 0) dL_law_1575 rfl rfl ?_
          obtain rfl := Option.some.inj h
          exact t_zret dL_law_1576 rfl rfl rfl
      rw [if_neg hs3_45] at h
      by_cases hs3_46 : ((xs x3.toNatClampNeg) &&& 63) = 46
      · rw [if_pos hs3_46] at h
        refine s_tableIn (off := 1544) (tgt := 1577) dL_law_33 (by rw [hs3_46]; decide) (by rw [hs3_46]; decide) (by rw [hs3_46]; rfl) rfl ?_
        refine s_aload_n (q := 1578) dL_law_1577 rfl rfl 1 rfl ?_
        obtain ⟨q288, hc288, h⟩ := bnd h
        try dsimp only at h
        refine t_callV (q := 1581) (N := mX5_undo) (a := eB E + 0) [] dL_law_1578 rfl nkX5_undo vkX5_undo lL_203 ⟨Nat.le_of_ble_eq_true rfl, Nat.le_of_ble_eq_true rfl⟩ (rc_obj (k := 0) rfl rfl) rfl rfl (Nat.le_of_ble_eq_true rfl) (Nat.le_of_ble_eq_true rfl) (T_X5_undo_0 E  hc288) ?_
        refine s_aload_n (q := 1582) dL_law_1581 rfl rfl 2 rfl ?_
        obtain ⟨q289, hc289, h⟩ := bnd h
        try dsimp only at h
        refine t_callV (q := 1585) (N := mX6_undo) (a := eB E + 51) [] dL_law_1582 rfl nkX6_undo vkX6_undo lL_206 ⟨Nat.le_of_ble_eq_true rfl, Nat.le_of_ble_eq_true rfl⟩ (rc_obj (k := 51) rfl rfl) rfl rfl (Nat.le_of_ble_eq_true rfl) (Nat.le_of_ble_eq_true rfl) (T_X6_undo_51 E  hc289) ?_
        refine s_icmp_eq (q := 1588) (tgt := 1649) dL_law_1585 rfl rfl (fun hb290 => ?_) (fun hb290 => ?_)
        · rw [if_pos hb290] at h
          refine s_iinc (q := 1652) (j := 3) (v := (x3 + 6)) (lv' := [(3, .int (x3 + 6)), (0, .ref xb), (1, .ref (eB E + 0)), (2, .ref (eB E + 51))]) dL_law_1649 rfl rfl rfl (Nat.le_of_ble_eq_true rfl) rfl ?_
          refine s_goto (tgt := 18) dL_law_1652 rfl ?_
          exact t_sub [1, 2, 3, 0] rfl (ih _ _ _ h)
        · rw [if_neg hb290] at h
          refine s_iconst (q := 1589) (v := 0) dL_law_1588 rfl rfl ?_
          obtain rfl := Option.some.inj h
          exact t_zret dL_law_1589 rfl rfl rfl
      rw [if_neg hs3_46] at h
      by_cases hs3_47 : ((xs x3.toNatClampNeg) &&& 63) = 47
      · rw [if_pos hs3_47] at h
        refine s_tableIn (off := 1557) (tgt := 1590) dL_law_33 (by rw [hs3_47]; decide) (by rw [hs3_47]; decide) (by rw [hs3_47]; rfl) rfl ?_
        refine s_aload_n (q := 1591) dL_law_1590 rfl rfl 1 rfl ?_
        obtain ⟨q291, hc291, h⟩ := bnd h
        try dsimp only at h
        refine t_callV (q := 1594) (N := mX5_tear) (a := eB E + 0) [] dL_law_1591 rfl nkX5_tear vkX5_tear lL_207 ⟨Nat.le_of_ble_eq_true rfl, Nat.le_of_ble_eq_true rfl⟩ (rc_obj (k := 0) rfl rfl) rfl rfl (Nat.le_of_ble_eq_true rfl) (Nat.le_of_ble_eq_true rfl) (T_X5_tear_0 E  hc291) ?_
        refine s_aload_n (q := 1595) dL_law_1594 rfl rfl 2 rfl ?_
        obtain ⟨q292, hc292, h⟩ := bnd h
        try dsimp only at h
        refine t_callV (q := 1598) (N := mX6_tear) (a := eB E + 51) [] dL_law_1595 rfl nkX6_tear vkX6_tear lL_210 ⟨Nat.le_of_ble_eq_true rfl, Nat.le_of_ble_eq_true rfl⟩ (rc_obj (k := 51) rfl rfl) rfl rfl (Nat.le_of_ble_eq_true rfl) (Nat.le_of_ble_eq_true rfl) (T_X6_tear_51 E  hc292) ?_
        refine s_icmp_eq (q := 1601) (tgt := 1649) dL_law_1598 rfl rfl (fun hb293 => ?_) (fun hb293 => ?_)
        · rw [if_pos hb293] at h
          refine s_iinc (q := 1652) (j := 3) (v := (x3 + 6)) (lv' := [(3, .int (x3 + 6)), (0, .ref xb), (1, .ref (eB E + 0)), (2, .ref (eB E + 51))]) dL_law_1649 rfl rfl rfl (Nat.le_of_ble_eq_true rfl) rfl ?_
          refine s_goto (tgt := 18) dL_law_1652 rfl ?_
          exact t_sub [1, 2, 3, 0] rfl (ih _ _ _ h)
        · rw [if_neg hb293] at h
          refine s_iconst (q := 1602) (v := 0) dL_law_1601 rfl rfl ?_
          obtain rfl := Option.some.inj h
          exact t_zret dL_law_1602 rfl rfl rfl
      rw [if_neg hs3_47] at h
      by_cases hs3_48 : ((xs x3.toNatClampNeg) &&& 63) = 48
      · rw [if_pos hs3_48] at h
        refine s_tableIn (off := 1570) (tgt := 1603) dL_law_33 (by rw [hs3_48]; decide) (by rw [hs3_48]; decide) (by rw [hs3_48]; rfl) rfl ?_
        refine s_aload_n (q := 1604) dL_law_1603 rfl rfl 1 rfl ?_
        refine s_aload_n (q := 1605) dL_law_1604 rfl rfl 0 rfl ?_
        refine s_iload_n (q := 1606) dL_law_1605 rfl rfl 3 rfl ?_
        refine s_iconst (q := 1607) (v := 1) dL_law_1606 rfl rfl ?_
        refine s_iadd (q := 1608) dL_law_1607 rfl ?_
        obtain ⟨hg294, h⟩ := chk_some h
        refine s_oldld (q := 1609) dL_law_1608 rfl hxs (inB_in hg294) ?_
        obtain ⟨q295, hc295, h⟩ := bnd h
        try dsimp only at h
        refine t_callV (q := 1612) (N := mX5_count) (a := eB E + 0) [.int (xs (x3 + 1).toNatClampNeg)] dL_law_1609 rfl nkX5_count vkX5_count lL_211 ⟨Nat.le_of_ble_eq_true rfl, Nat.le_of_ble_eq_true rfl⟩ (rc_obj (k := 0) rfl rfl) rfl rfl (Nat.le_of_ble_eq_true rfl) (Nat.le_of_ble_eq_true rfl) (T_X5_count_0 E _ hc295) ?_
        refine s_aload_n (q := 1613) dL_law_1612 rfl rfl 2 rfl ?_
        refine s_aload_n (q := 1614) dL_law_1613 rfl rfl 0 rfl ?_
        refine s_iload_n (q := 1615) dL_law_1614 rfl rfl 3 rfl ?_
        refine s_iconst (q := 1616) (v := 1) dL_law_1615 rfl rfl ?_
        refine s_iadd (q := 1617) dL_law_1616 rfl ?_
        obtain ⟨hg296, h⟩ := chk_some h
        refine s_oldld (q := 1618) dL_law_1617 rfl hxs (inB_in hg296) ?_
        obtain ⟨q297, hc297, h⟩ := bnd h
        try dsimp only at h
        refine t_callV (q := 1621) (N := mX6_count) (a := eB E + 51) [.int (xs (x3 + 1).toNatClampNeg)] dL_law_1618 rfl nkX6_count vkX6_count lL_214 ⟨Nat.le_of_ble_eq_true rfl, Nat.le_of_ble_eq_true rfl⟩ (rc_obj (k := 51) rfl rfl) rfl rfl (Nat.le_of_ble_eq_true rfl) (Nat.le_of_ble_eq_true rfl) (T_X6_count_51 E _ hc297) ?_
        refine s_icmp_eq (q := 1624) (tgt := 1649) dL_law_1621 rfl rfl (fun hb298 => ?_) (fun hb298 => ?_)
        · rw [if_pos hb298] at h
          refine s_iinc (q := 1652) (j := 3) (v := (x3 + 6)) (lv' := [(3, .int (x3 + 6)), (0, .ref xb), (1, .ref (eB E + 0)), (2, .ref (eB E + 51))]) dL_law_1649 rfl rfl rfl (Nat.le_of_ble_eq_true rfl) rfl ?_
          refine s_goto (tgt := 18) dL_law_1652 rfl ?_
          exact t_sub [1, 2, 3, 0] rfl (ih _ _ _ h)
        · rw [if_neg hb298] at h
          refine s_iconst (q := 1625) (v := 0) dL_law_1624 rfl rfl ?_
          obtain rfl := Option.some.inj h
          exact t_zret dL_law_1625 rfl rfl rfl
      rw [if_neg hs3_48] at h
      by_cases hs3_49 : ((xs x3.toNatClampNeg) &&& 63) = 49
      · rw [if_pos hs3_49] at h
        refine s_tableIn (off := 1593) (tgt := 1626) dL_law_33 (by rw [hs3_49]; decide) (by rw [hs3_49]; decide) (by rw [hs3_49]; rfl) rfl ?_
        refine s_aload_n (q := 1627) dL_law_1626 rfl rfl 1 rfl ?_
        refine s_aload_n (q := 1628) dL_law_1627 rfl rfl 0 rfl ?_
        refine s_iload_n (q := 1629) dL_law_1628 rfl rfl 3 rfl ?_
        refine s_iconst (q := 1630) (v := 1) dL_law_1629 rfl rfl ?_
        refine s_iadd (q := 1631) dL_law_1630 rfl ?_
        obtain ⟨hg299, h⟩ := chk_some h
        refine s_oldld (q := 1632) dL_law_1631 rfl hxs (inB_in hg299) ?_
        obtain ⟨q300, hc300, h⟩ := bnd h
        try dsimp only at h
        refine t_callV (q := 1635) (N := mX5_status) (a := eB E + 0) [.int (xs (x3 + 1).toNatClampNeg)] dL_law_1632 rfl nkX5_status vkX5_status lL_215 ⟨Nat.le_of_ble_eq_true rfl, Nat.le_of_ble_eq_true rfl⟩ (rc_obj (k := 0) rfl rfl) rfl rfl (Nat.le_of_ble_eq_true rfl) (Nat.le_of_ble_eq_true rfl) (T_X5_status_0 E _ hc300) ?_
        refine s_aload_n (q := 1636) dL_law_1635 rfl rfl 2 rfl ?_
        refine s_aload_n (q := 1637) dL_law_1636 rfl rfl 0 rfl ?_
        refine s_iload_n (q := 1638) dL_law_1637 rfl rfl 3 rfl ?_
        refine s_iconst (q := 1639) (v := 1) dL_law_1638 rfl rfl ?_
        refine s_iadd (q := 1640) dL_law_1639 rfl ?_
        obtain ⟨hg301, h⟩ := chk_some h
        refine s_oldld (q := 1641) dL_law_1640 rfl hxs (inB_in hg301) ?_
        obtain ⟨q302, hc302, h⟩ := bnd h
        try dsimp only at h
        refine t_callV (q := 1644) (N := mX6_status) (a := eB E + 51) [.int (xs (x3 + 1).toNatClampNeg)] dL_law_1641 rfl nkX6_status vkX6_status lL_218 ⟨Nat.le_of_ble_eq_true rfl, Nat.le_of_ble_eq_true rfl⟩ (rc_obj (k := 51) rfl rfl) rfl rfl (Nat.le_of_ble_eq_true rfl) (Nat.le_of_ble_eq_true rfl) (T_X6_status_51 E _ hc302) ?_
        refine s_icmp_eq (q := 1647) (tgt := 1649) dL_law_1644 rfl rfl (fun hb303 => ?_) (fun hb303 => ?_)
        · rw [if_pos hb303] at h
          refine s_iinc (q := 1652) (j := 3) (v := (x3 + 6)) (lv' := [(3, .int (x3 + 6)), (0, .ref xb), (1, .ref (eB E + 0)), (2, .ref (eB E + 51))]) dL_law_1649 rfl rfl rfl (Nat.le_of_ble_eq_true rfl) rfl ?_
          refine s_goto (tgt := 18) dL_law_1652 rfl ?_
          exact t_sub [1, 2, 3, 0] rfl (ih _ _ _ h)
        · rw [if_neg hb303] at h
          refine s_iconst (q := 1648) (v := 0) dL_law_1647 rfl rfl ?_
          obtain rfl := Option.some.inj h
          exact t_zret dL_law_1648 rfl rfl rfl
      rw [if_neg hs3_49] at h
      refine s_tableOut (tgt := 1649) dL_law_33 (by have e0 := lv_neT (a := 0) hs3_0 (by decide); have e1 := lv_neT (a := 1) hs3_1 (by decide); have e2 := lv_neT (a := 2) hs3_2 (by decide); have e3 := lv_neT (a := 3) hs3_3 (by decide); have e4 := lv_neT (a := 4) hs3_4 (by decide); have e5 := lv_neT (a := 5) hs3_5 (by decide); have e6 := lv_neT (a := 6) hs3_6 (by decide); have e7 := lv_neT (a := 7) hs3_7 (by decide); have e8 := lv_neT (a := 8) hs3_8 (by decide); have e9 := lv_neT (a := 9) hs3_9 (by decide); have e10 := lv_neT (a := 10) hs3_10 (by decide); have e11 := lv_neT (a := 11) hs3_11 (by decide); have e12 := lv_neT (a := 12) hs3_12 (by decide); have e13 := lv_neT (a := 13) hs3_13 (by decide); have e14 := lv_neT (a := 14) hs3_14 (by decide); have e15 := lv_neT (a := 15) hs3_15 (by decide); have e16 := lv_neT (a := 16) hs3_16 (by decide); have e17 := lv_neT (a := 17) hs3_17 (by decide); have e18 := lv_neT (a := 18) hs3_18 (by decide); have e19 := lv_neT (a := 19) hs3_19 (by decide); have e20 := lv_neT (a := 20) hs3_20 (by decide); have e21 := lv_neT (a := 21) hs3_21 (by decide); have e22 := lv_neT (a := 22) hs3_22 (by decide); have e23 := lv_neT (a := 23) hs3_23 (by decide); have e24 := lv_neT (a := 24) hs3_24 (by decide); have e25 := lv_neT (a := 25) hs3_25 (by decide); have e26 := lv_neT (a := 26) hs3_26 (by decide); have e27 := lv_neT (a := 27) hs3_27 (by decide); have e28 := lv_neT (a := 28) hs3_28 (by decide); have e29 := lv_neT (a := 29) hs3_29 (by decide); have e30 := lv_neT (a := 30) hs3_30 (by decide); have e31 := lv_neT (a := 31) hs3_31 (by decide); have e32 := lv_neT (a := 32) hs3_32 (by decide); have e33 := lv_neT (a := 33) hs3_33 (by decide); have e34 := lv_neT (a := 34) hs3_34 (by decide); have e35 := lv_neT (a := 35) hs3_35 (by decide); have e36 := lv_neT (a := 36) hs3_36 (by decide); have e37 := lv_neT (a := 37) hs3_37 (by decide); have e38 := lv_neT (a := 38) hs3_38 (by decide); have e39 := lv_neT (a := 39) hs3_39 (by decide); have e40 := lv_neT (a := 40) hs3_40 (by decide); have e41 := lv_neT (a := 41) hs3_41 (by decide); have e42 := lv_neT (a := 42) hs3_42 (by decide); have e43 := lv_neT (a := 43) hs3_43 (by decide); have e44 := lv_neT (a := 44) hs3_44 (by decide); have e45 := lv_neT (a := 45) hs3_45 (by decide); have e46 := lv_neT (a := 46) hs3_46 (by decide); have e47 := lv_neT (a := 47) hs3_47 (by decide); have e48 := lv_neT (a := 48) hs3_48 (by decide); have e49 := lv_neT (a := 49) hs3_49 (by decide); omega) rfl ?_
      refine s_iinc (q := 1652) (j := 3) (v := (x3 + 6)) (lv' := [(3, .int (x3 + 6)), (0, .ref xb), (1, .ref (eB E + 0)), (2, .ref (eB E + 51))]) dL_law_1649 rfl rfl rfl (Nat.le_of_ble_eq_true rfl) rfl ?_
      refine s_goto (tgt := 18) dL_law_1652 rfl ?_
      exact t_sub [1, 2, 3, 0] rfl (ih _ _ _ h)
