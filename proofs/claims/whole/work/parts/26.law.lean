def lp_law (xs : Nat → Int32) (L : Nat) : Nat → Int32 → OS → OS → OS → OS → OS → OS → OS → PSt → PSt → OS → Option Int32
  | 0, _, _, _, _, _, _, _, _, _, _, _ => none
  | n + 1, v3, w_O, w_N, w_T, w_C, w_D, w_DW, w_DP, w_PA, w_IM, w_M => if ((Int32.ofNat L) - 5) < v3 then some 1 else ck v3 L (if ((xs (v3 : Int32).toNatClampNeg) &&& 31) = 0 then ck (v3 + 1) L (Option.bind (f_X4_type (xs ((v3 + 1) : Int32).toNatClampNeg) w_O w_C) fun x5 => ck (v3 + 1) L (Option.bind (f_X5_type (xs ((v3 + 1) : Int32).toNatClampNeg) w_M) fun x7 => if x5.1 = x7.1 then lp_law xs L n (v3 + 5) w_O w_N w_T x5.2 w_D w_DW w_DP w_PA w_IM x7.2 else some 0)) else if ((xs (v3 : Int32).toNatClampNeg) &&& 31) = 1 then Option.bind (f_X4_clear w_O w_C) fun x10 => Option.bind (f_X5_clear w_M) fun x11 => if x10.1 = x11.1 then lp_law xs L n (v3 + 5) w_O w_N w_T x10.2 w_D w_DW w_DP w_PA w_IM x11.2 else some 0 else if ((xs (v3 : Int32).toNatClampNeg) &&& 31) = 2 then Option.bind (f_X4_tells w_O w_N w_T w_C) fun x14 => Option.bind (f_X5_tells w_M) fun x15 => if x14.1 = x15.1 then lp_law xs L n (v3 + 5) x14.2.1 x14.2.2.1 x14.2.2.2.1 x14.2.2.2.2 w_D w_DW w_DP w_PA w_IM x15.2 else some 0 else if ((xs (v3 : Int32).toNatClampNeg) &&& 31) = 3 then ck (v3 + 1) L (ck (v3 + 2) L (ck (v3 + 3) L (ck (v3 + 4) L (Option.bind (f_X4_drives (xs ((v3 + 1) : Int32).toNatClampNeg) (xs ((v3 + 2) : Int32).toNatClampNeg) (xs ((v3 + 3) : Int32).toNatClampNeg) (xs ((v3 + 4) : Int32).toNatClampNeg) w_O w_N w_PA) fun x22 => ck (v3 + 1) L (ck (v3 + 2) L (ck (v3 + 3) L (ck (v3 + 4) L (Option.bind (f_X5_drives (xs ((v3 + 1) : Int32).toNatClampNeg) (xs ((v3 + 2) : Int32).toNatClampNeg) (xs ((v3 + 3) : Int32).toNatClampNeg) (xs ((v3 + 4) : Int32).toNatClampNeg) w_M) fun x27 => if x22.1 = x27.1 then lp_law xs L n (v3 + 5) x22.2.1 x22.2.2.1 w_T w_C w_D w_DW w_DP x22.2.2.2 w_IM x27.2 else some 0)))))))) else if ((xs (v3 : Int32).toNatClampNeg) &&& 31) = 4 then ck (v3 + 1) L (Option.bind (f_X4_loses (xs ((v3 + 1) : Int32).toNatClampNeg) w_O w_N w_PA) fun x31 => ck (v3 + 1) L (Option.bind (f_X5_loses (xs ((v3 + 1) : Int32).toNatClampNeg) w_M) fun x33 => if x31.1 = x33.1 then lp_law xs L n (v3 + 5) x31.2.1 x31.2.2.1 w_T w_C w_D w_DW w_DP x31.2.2.2 w_IM x33.2 else some 0)) else if ((xs (v3 : Int32).toNatClampNeg) &&& 31) = 5 then ck (v3 + 1) L (Option.bind (f_X4_mends (xs ((v3 + 1) : Int32).toNatClampNeg) w_O w_N w_PA) fun x37 => ck (v3 + 1) L (Option.bind (f_X5_mends (xs ((v3 + 1) : Int32).toNatClampNeg) w_M) fun x39 => if x37.1 = x39.1 then lp_law xs L n (v3 + 5) x37.2.1 x37.2.2.1 w_T w_C w_D w_DW w_DP x37.2.2.2 w_IM x39.2 else some 0)) else if ((xs (v3 : Int32).toNatClampNeg) &&& 31) = 6 then ck (v3 + 1) L (ck (v3 + 2) L (Option.bind (f_X4_loads (xs ((v3 + 1) : Int32).toNatClampNeg) (xs ((v3 + 2) : Int32).toNatClampNeg) w_O w_N w_PA) fun x44 => ck (v3 + 1) L (ck (v3 + 2) L (Option.bind (f_X5_loads (xs ((v3 + 1) : Int32).toNatClampNeg) (xs ((v3 + 2) : Int32).toNatClampNeg) w_M) fun x47 => if x44.1 = x47.1 then lp_law xs L n (v3 + 5) x44.2.1 x44.2.2.1 w_T w_C w_D w_DW w_DP x44.2.2.2 w_IM x47.2 else some 0)))) else if ((xs (v3 : Int32).toNatClampNeg) &&& 31) = 7 then ck (v3 + 1) L (ck (v3 + 2) L (ck (v3 + 3) L (Option.bind (f_X4_moves (xs ((v3 + 1) : Int32).toNatClampNeg) (xs ((v3 + 2) : Int32).toNatClampNeg) (xs ((v3 + 3) : Int32).toNatClampNeg) w_O w_N w_PA) fun x53 => ck (v3 + 1) L (ck (v3 + 2) L (ck (v3 + 3) L (Option.bind (f_X5_moves (xs ((v3 + 1) : Int32).toNatClampNeg) (xs ((v3 + 2) : Int32).toNatClampNeg) (xs ((v3 + 3) : Int32).toNatClampNeg) w_M) fun x57 => if x53.1 = x57.1 then lp_law xs L n (v3 + 5) x53.2.1 x53.2.2.1 w_T w_C w_D w_DW w_DP x53.2.2.2 w_IM x57.2 else some 0)))))) else if ((xs (v3 : Int32).toNatClampNeg) &&& 31) = 8 then ck (v3 + 1) L (ck (v3 + 2) L (Option.bind (f_X4_winds (xs ((v3 + 1) : Int32).toNatClampNeg) (xs ((v3 + 2) : Int32).toNatClampNeg) w_O w_N w_PA) fun x62 => ck (v3 + 1) L (ck (v3 + 2) L (Option.bind (f_X5_winds (xs ((v3 + 1) : Int32).toNatClampNeg) (xs ((v3 + 2) : Int32).toNatClampNeg) w_M) fun x65 => if x62.1 = x65.1 then lp_law xs L n (v3 + 5) x62.2.1 x62.2.2.1 w_T w_C w_D w_DW w_DP x62.2.2.2 w_IM x65.2 else some 0)))) else if ((xs (v3 : Int32).toNatClampNeg) &&& 31) = 9 then Option.bind (f_X4_undo w_O w_N w_PA) fun x68 => Option.bind (f_X5_undo w_M) fun x69 => if x68.1 = x69.1 then lp_law xs L n (v3 + 5) x68.2.1 x68.2.2 w_T w_C w_D w_DW w_DP w_PA w_IM x69.2 else some 0 else if ((xs (v3 : Int32).toNatClampNeg) &&& 31) = 10 then ck (v3 + 1) L (ck (v3 + 2) L (Option.bind (f_X4_pile (xs ((v3 + 1) : Int32).toNatClampNeg) (xs ((v3 + 2) : Int32).toNatClampNeg) w_O w_N w_D w_DW w_DP) fun x74 => ck (v3 + 1) L (ck (v3 + 2) L (Option.bind (f_X5_pile (xs ((v3 + 1) : Int32).toNatClampNeg) (xs ((v3 + 2) : Int32).toNatClampNeg) w_M) fun x77 => if x74.1 = x77.1 then lp_law xs L n (v3 + 5) w_O w_N w_T w_C x74.2.1 x74.2.2.1 x74.2.2.2 w_PA w_IM x77.2 else some 0)))) else if ((xs (v3 : Int32).toNatClampNeg) &&& 31) = 11 then ck (v3 + 1) L (ck (v3 + 2) L (Option.bind (f_X4_column (xs ((v3 + 1) : Int32).toNatClampNeg) (xs ((v3 + 2) : Int32).toNatClampNeg) w_O w_N) fun x82 => ck (v3 + 1) L (ck (v3 + 2) L (Option.bind (f_X5_column (xs ((v3 + 1) : Int32).toNatClampNeg) (xs ((v3 + 2) : Int32).toNatClampNeg) w_M) fun x85 => if x82 = x85 then lp_law xs L n (v3 + 5) w_O w_N w_T w_C w_D w_DW w_DP w_PA w_IM w_M else some 0)))) else if ((xs (v3 : Int32).toNatClampNeg) &&& 31) = 12 then ck (v3 + 1) L (Option.bind (f_X4_sum (xs ((v3 + 1) : Int32).toNatClampNeg) w_O w_N) fun x89 => ck (v3 + 1) L (Option.bind (f_X5_sum (xs ((v3 + 1) : Int32).toNatClampNeg) w_M) fun x91 => if x89 = x91 then lp_law xs L n (v3 + 5) w_O w_N w_T w_C w_D w_DW w_DP w_PA w_IM w_M else some 0)) else if ((xs (v3 : Int32).toNatClampNeg) &&& 31) = 13 then ck (v3 + 1) L (Option.bind (f_X4_sharing (xs ((v3 + 1) : Int32).toNatClampNeg) w_O w_N w_D w_DW w_DP) fun x95 => ck (v3 + 1) L (Option.bind (f_X5_sharing (xs ((v3 + 1) : Int32).toNatClampNeg) w_M) fun x97 => if x95.1 = x97.1 then lp_law xs L n (v3 + 5) w_O w_N w_T w_C x95.2.1 x95.2.2.1 x95.2.2.2 w_PA w_IM x97.2 else some 0)) else if ((xs (v3 : Int32).toNatClampNeg) &&& 31) = 14 then ck (v3 + 1) L (ck (v3 + 2) L (Option.bind (f_X4_share (xs ((v3 + 1) : Int32).toNatClampNeg) (xs ((v3 + 2) : Int32).toNatClampNeg) w_O w_N w_D w_DW w_DP) fun x102 => ck (v3 + 1) L (ck (v3 + 2) L (Option.bind (f_X5_share (xs ((v3 + 1) : Int32).toNatClampNeg) (xs ((v3 + 2) : Int32).toNatClampNeg) w_M) fun x105 => if x102.1 = x105.1 then lp_law xs L n (v3 + 5) w_O w_N w_T w_C x102.2.1 x102.2.2.1 x102.2.2.2 w_PA w_IM x105.2 else some 0)))) else if ((xs (v3 : Int32).toNatClampNeg) &&& 31) = 15 then ck (v3 + 1) L (ck (v3 + 2) L (ck (v3 + 3) L (Option.bind (f_X4_press (xs ((v3 + 1) : Int32).toNatClampNeg) (xs ((v3 + 2) : Int32).toNatClampNeg) (xs ((v3 + 3) : Int32).toNatClampNeg) w_O w_N w_D w_DW w_DP) fun x111 => ck (v3 + 1) L (ck (v3 + 2) L (ck (v3 + 3) L (Option.bind (f_X5_press (xs ((v3 + 1) : Int32).toNatClampNeg) (xs ((v3 + 2) : Int32).toNatClampNeg) (xs ((v3 + 3) : Int32).toNatClampNeg) w_M) fun x115 => if x111.1 = x115.1 then lp_law xs L n (v3 + 5) w_O w_N w_T w_C x111.2.1 x111.2.2.1 x111.2.2.2 w_PA w_IM x115.2 else some 0)))))) else if ((xs (v3 : Int32).toNatClampNeg) &&& 31) = 16 then ck (v3 + 1) L (Option.bind (f_X4_most (xs ((v3 + 1) : Int32).toNatClampNeg) w_O w_N w_D w_DW w_DP) fun x119 => ck (v3 + 1) L (Option.bind (f_X5_most (xs ((v3 + 1) : Int32).toNatClampNeg) w_M) fun x121 => if x119.1 = x121.1 then lp_law xs L n (v3 + 5) w_O w_N w_T w_C x119.2.1 x119.2.2.1 x119.2.2.2 w_PA w_IM x121.2 else some 0)) else if ((xs (v3 : Int32).toNatClampNeg) &&& 31) = 17 then ck (v3 + 1) L (Option.bind (f_X4_factor (xs ((v3 + 1) : Int32).toNatClampNeg) w_O w_N w_D w_DW w_DP) fun x125 => ck (v3 + 1) L (Option.bind (f_X5_factor (xs ((v3 + 1) : Int32).toNatClampNeg) w_M) fun x127 => if x125.1 = x127.1 then lp_law xs L n (v3 + 5) w_O w_N w_T w_C x125.2.1 x125.2.2.1 x125.2.2.2 w_PA w_IM x127.2 else some 0)) else if ((xs (v3 : Int32).toNatClampNeg) &&& 31) = 18 then ck (v3 + 1) L (ck (v3 + 2) L (Option.bind (f_X4_kern (xs ((v3 + 1) : Int32).toNatClampNeg) (xs ((v3 + 2) : Int32).toNatClampNeg) w_O w_N w_D w_DW w_DP) fun x132 => ck (v3 + 1) L (ck (v3 + 2) L (Option.bind (f_X5_kern (xs ((v3 + 1) : Int32).toNatClampNeg) (xs ((v3 + 2) : Int32).toNatClampNeg) w_M) fun x135 => if x132.1 = x135.1 then lp_law xs L n (v3 + 5) w_O w_N w_T w_C x132.2.1 x132.2.2.1 x132.2.2.2 w_PA w_IM x135.2 else some 0)))) else if ((xs (v3 : Int32).toNatClampNeg) &&& 31) = 19 then ck (v3 + 1) L (Option.bind (f_X4_kerns (xs ((v3 + 1) : Int32).toNatClampNeg) w_O w_N w_D w_DW w_DP) fun x139 => ck (v3 + 1) L (Option.bind (f_X5_kerns (xs ((v3 + 1) : Int32).toNatClampNeg) w_M) fun x141 => if x139.1 = x141.1 then lp_law xs L n (v3 + 5) w_O w_N w_T w_C x139.2.1 x139.2.2.1 x139.2.2.2 w_PA w_IM x141.2 else some 0)) else if ((xs (v3 : Int32).toNatClampNeg) &&& 31) = 20 then ck (v3 + 1) L (ck (v3 + 2) L (Option.bind (f_X4_without (xs ((v3 + 1) : Int32).toNatClampNeg) (xs ((v3 + 2) : Int32).toNatClampNeg) w_O w_N w_D w_DW w_DP) fun x146 => ck (v3 + 1) L (ck (v3 + 2) L (Option.bind (f_X5_without (xs ((v3 + 1) : Int32).toNatClampNeg) (xs ((v3 + 2) : Int32).toNatClampNeg) w_M) fun x149 => if x146.1 = x149.1 then lp_law xs L n (v3 + 5) w_O w_N w_T w_C x146.2.1 x146.2.2.1 x146.2.2.2 w_PA w_IM x149.2 else some 0)))) else if ((xs (v3 : Int32).toNatClampNeg) &&& 31) = 21 then Option.bind (f_X4_key w_O w_N w_D w_DW w_DP) fun x152 => Option.bind (f_X5_key w_M) fun x153 => if x152.1 = x153.1 then lp_law xs L n (v3 + 5) w_O w_N w_T w_C x152.2.1 x152.2.2.1 x152.2.2.2 w_PA w_IM x153.2 else some 0 else if ((xs (v3 : Int32).toNatClampNeg) &&& 31) = 22 then ck (v3 + 1) L (ck (v3 + 2) L (Option.bind (f_X4_extra (xs ((v3 + 1) : Int32).toNatClampNeg) (xs ((v3 + 2) : Int32).toNatClampNeg) w_O w_N w_D w_DW w_DP) fun x158 => ck (v3 + 1) L (ck (v3 + 2) L (Option.bind (f_X5_extra (xs ((v3 + 1) : Int32).toNatClampNeg) (xs ((v3 + 2) : Int32).toNatClampNeg) w_M) fun x161 => if x158.1 = x161.1 then lp_law xs L n (v3 + 5) w_O w_N w_T w_C x158.2.1 x158.2.2.1 x158.2.2.2 w_PA w_IM x161.2 else some 0)))) else if ((xs (v3 : Int32).toNatClampNeg) &&& 31) = 23 then ck (v3 + 1) L (ck (v3 + 2) L (Option.bind (f_X4_odds (xs ((v3 + 1) : Int32).toNatClampNeg) (xs ((v3 + 2) : Int32).toNatClampNeg) w_O w_N w_D w_DW w_DP) fun x166 => ck (v3 + 1) L (ck (v3 + 2) L (Option.bind (f_X5_odds (xs ((v3 + 1) : Int32).toNatClampNeg) (xs ((v3 + 2) : Int32).toNatClampNeg) w_M) fun x169 => if x166.1 = x169.1 then lp_law xs L n (v3 + 5) w_O w_N w_T w_C x166.2.1 x166.2.2.1 x166.2.2.2 w_PA w_IM x169.2 else some 0)))) else if ((xs (v3 : Int32).toNatClampNeg) &&& 31) = 24 then ck (v3 + 1) L (Option.bind (f_X4_hunts (xs ((v3 + 1) : Int32).toNatClampNeg) w_O) fun x173 => ck (v3 + 1) L (Option.bind (f_X5_hunts (xs ((v3 + 1) : Int32).toNatClampNeg) w_M) fun x175 => if x173.1 = x175.1 then lp_law xs L n (v3 + 5) x173.2 w_N w_T w_C w_D w_DW w_DP w_PA w_IM x175.2 else some 0)) else if ((xs (v3 : Int32).toNatClampNeg) &&& 31) = 25 then ck (v3 + 1) L (ck (v3 + 2) L (Option.bind (f_X4_sees (xs ((v3 + 1) : Int32).toNatClampNeg) (xs ((v3 + 2) : Int32).toNatClampNeg) w_O w_N) fun x180 => ck (v3 + 1) L (ck (v3 + 2) L (Option.bind (f_X5_sees (xs ((v3 + 1) : Int32).toNatClampNeg) (xs ((v3 + 2) : Int32).toNatClampNeg) w_M) fun x183 => if x180.1 = x183.1 then lp_law xs L n (v3 + 5) x180.2 w_N w_T w_C w_D w_DW w_DP w_PA w_IM x183.2 else some 0)))) else if ((xs (v3 : Int32).toNatClampNeg) &&& 31) = 26 then Option.bind (f_X4_forget w_O) fun x186 => Option.bind (f_X5_forget w_M) fun x187 => if x186.1 = x187.1 then lp_law xs L n (v3 + 5) x186.2 w_N w_T w_C w_D w_DW w_DP w_PA w_IM x187.2 else some 0 else if ((xs (v3 : Int32).toNatClampNeg) &&& 31) = 27 then ck (v3 + 1) L (Option.bind (f_X4_spots (xs ((v3 + 1) : Int32).toNatClampNeg) w_O w_N w_D w_DW w_DP) fun x191 => ck (v3 + 1) L (Option.bind (f_X5_spots (xs ((v3 + 1) : Int32).toNatClampNeg) w_M) fun x193 => if x191.1 = x193.1 then lp_law xs L n (v3 + 5) w_O w_N w_T w_C x191.2.1 x191.2.2.1 x191.2.2.2 w_PA w_IM x193.2 else some 0)) else if ((xs (v3 : Int32).toNatClampNeg) &&& 31) = 28 then Option.bind (f_X4_ask w_O w_N w_D w_DW w_DP) fun x196 => Option.bind (f_X5_ask w_M) fun x197 => if x196.1 = x197.1 then lp_law xs L n (v3 + 5) x196.2.1 w_N w_T w_C x196.2.2.1 x196.2.2.2.1 x196.2.2.2.2 w_PA w_IM x197.2 else some 0 else if ((xs (v3 : Int32).toNatClampNeg) &&& 31) = 29 then ck (v3 + 1) L (Option.bind (f_X4_keep (xs ((v3 + 1) : Int32).toNatClampNeg) w_O w_N w_IM) fun x201 => ck (v3 + 1) L (Option.bind (f_X5_keep (xs ((v3 + 1) : Int32).toNatClampNeg) w_M) fun x203 => if x201.1 = x203.1 then lp_law xs L n (v3 + 5) x201.2.1 w_N w_T w_C w_D w_DW w_DP w_PA x201.2.2 x203.2 else some 0)) else if ((xs (v3 : Int32).toNatClampNeg) &&& 31) = 30 then ck (v3 + 1) L (Option.bind (f_X4_back (xs ((v3 + 1) : Int32).toNatClampNeg) w_O w_N w_IM) fun x207 => ck (v3 + 1) L (Option.bind (f_X5_back (xs ((v3 + 1) : Int32).toNatClampNeg) w_M) fun x209 => if x207.1 = x209.1 then lp_law xs L n (v3 + 5) x207.2.1 x207.2.2 w_T w_C w_D w_DW w_DP w_PA w_IM x209.2 else some 0)) else if ((xs (v3 : Int32).toNatClampNeg) &&& 31) = 31 then ck (v3 + 1) L (Option.bind (f_X4_count (xs ((v3 + 1) : Int32).toNatClampNeg) w_O w_N w_C) fun x213 => ck (v3 + 1) L (Option.bind (f_X5_count (xs ((v3 + 1) : Int32).toNatClampNeg) w_M) fun x215 => if x213 = x215 then lp_law xs L n (v3 + 5) w_O w_N w_T w_C w_D w_DW w_DP w_PA w_IM w_M else some 0)) else lp_law xs L n (v3 + 5) w_O w_N w_T w_C w_D w_DW w_DP w_PA w_IM w_M)
/-- the law's end: 1, nothing old was written -/
theorem law_end {p : Program} {e : Env} {s : State} {m : MethodId} {below : List Frame} {meth : Method} {c : Code} {b : Nat} (l : Launch) (hx : p.tables.exec = Jvm.exec) (hb : c.code = code) (hr : meth.sig.returnType = ret) (hlocks : meth.locks = false) {H : Heap} {locs : List Loc} (hS : va_S (fun q : Nat => s.heap.size ≤ q) s.heap H locs) {pc : Nat} {ls : Array Slot} (hdg : decode code pc = .ok (.ireturn, 1)) : W p l e room_1 s m #[Value.ref b] below meth c H locs 111 5865 (lw_Z below #[Value.ref b] s) (F0 m pc ls [.int 1]) := by
  refine va_forget hS.2.2 ?_
  refine W.widen (k := 600000) (n := 7302250) (Nat.le_of_ble_eq_true rfl) (Nat.le_of_ble_eq_true rfl) ?_
  exact lw_ret hx hb hr hlocks hdg
set_option maxHeartbeats 16000000 in
set_option maxRecDepth 100000 in
theorem law_loop {p : Program} {e : Env} {s : State} {m : MethodId} {below : List Frame} {meth : Method} {c : Code} (l : Launch) {b L : Nat} {xs : Nat → Int32} (C0 : lw_At p s m meth c b L xs) (D : va_G) (cI cZ cS : ClassId) (hK : KX D cI cZ cS s) (a am : Nat) (q qN qT qC qD qM : Nat → Nat) : ∀ (n : Nat) (v3 : Int32) (w_O : OS) (w_N : OS) (w_T : OS) (w_C : OS) (w_D : OS) (w_DW : OS) (w_DP : OS) (w_PA : PSt) (w_IM : PSt) (w_M : OS) (H : Heap) (locs : List Loc) (ls : Array Slot), lp_law xs L n v3 w_O w_N w_T w_C w_D w_DW w_DP w_PA w_IM w_M = some 1 → va_P D vwCl (fl [bX4 cI cZ a q w_O, bX3 cI (q 0) qN w_N, bX3 cI (q 1) qT w_T, bX2 cI (q 2) qC w_C, bX0 cI (q 12) qD w_D, bX1 (qD 13) w_DW, bX1 (qD 14) w_DP, bPA cI cS (q 3) w_PA, bIM cI cS (q 5) w_IM, bX5 cI cZ am qM w_M]) H → va_D (fun q : Nat => s.heap.size ≤ q) (fl [bX4 cI cZ a q w_O, bX3 cI (q 0) qN w_N, bX3 cI (q 1) qT w_T, bX2 cI (q 2) qC w_C, bX0 cI (q 12) qD w_D, bX1 (qD 13) w_DW, bX1 (qD 14) w_DP, bPA cI cS (q 3) w_PA, bIM cI cS (q 5) w_IM, bX5 cI cZ am qM w_M]) → va_S (fun q : Nat => s.heap.size ≤ q) s.heap H locs → lv_has ls 4 [(0, .ref b), (1, .ref a), (2, .ref am), (3, .int v3)] → W p l e room_1 s m #[Value.ref b] below meth c H locs 111 5865 (lw_Z below #[Value.ref b] s) (F0 m 18 ls []) := by
  obtain ⟨hx, hb, hr, hml, hown, hts9, hX, hbl, hlocks, hgv⟩ := id C0
  have hts := fun w (h : w ∈ TB) => hts9 w (List.mem_filter.mp h).1
  have hA : ∀ q : Nat, s.heap.size ≤ q → (fun q : Nat => s.heap.size ≤ q) q := fun _ h => h
  have hbA : ¬ (fun q : Nat => s.heap.size ≤ q) b := Nat.not_le.mpr hbl
  intro n
  induction n with
  | zero => intro v3 w_O w_N w_T w_C w_D w_DW w_DP w_PA w_IM w_M H locs ls hf; cases hf
  | succ n ih =>
      intro v3 w_O w_N w_T w_C w_D w_DW w_DP w_PA w_IM w_M H locs ls hf hP hD hS hl
      rw [lp_law] at hf
      refine lv_iload_n (pc := 18) hx hb dL_law_18 rfl (lv_at hl 3 rfl) ?_
      refine lv_aload_n (pc := 19) hx hb dL_law_19 rfl (lv_at hl 0 rfl) ?_
      refine va_slen (pc := 20) hx hb hX hbl hbA hS dL_law_20 ?_
      refine lv_iconst (v := 5) (pc := 21) hx hb dL_law_21 (by decide) ?_
      refine lv_isub (pc := 22) hx hb dL_law_22 ?_
      refine lv_icmp_gt (pc := 23) (tgt := 1036) hx hb dL_law_23 (by decide) (fun c1 => ?_) (fun c1 => ?_)
      · replace hf := ip c1 hf
        refine lv_iconst (v := 1) (pc := 1036) hx hb dL_law_1036 (by decide) ?_
        exact law_end l hx hb hr hlocks hS dL_law_1037
      · replace hf := im c1 hf
        refine lv_aload_n (pc := 26) hx hb dL_law_26 rfl (lv_at hl 0 rfl) ?_
        refine lv_iload_n (pc := 27) hx hb dL_law_27 rfl (lv_at hl 3 rfl) ?_
        obtain ⟨h2, hf⟩ := ck_some hf
        refine va_sld (pc := 28) hx hb hX hbl hbA hS h2 dL_law_28 ?_
        refine lv_bipush (v := 31) (pc := 29) hx hb dL_law_29 (by decide) ?_
        refine lv_iand (pc := 31) hx hb dL_law_31 ?_
        by_cases c3 : ((xs (v3 : Int32).toNatClampNeg) &&& 31) = 0
        · refine lv_tableIn (pc := 32) (off := 144) (tgt := 176) hx hb dL_law_32 (by rw [c3]; decide) (by rw [c3]; decide) (by rw [c3]; decide) (by decide) ?_
          replace hf := ip c3 hf
          refine lv_aload_n (pc := 176) hx hb dL_law_176 rfl (lv_at hl 1 rfl) ?_
          refine lv_aload_n (pc := 177) hx hb dL_law_177 rfl (lv_at hl 0 rfl) ?_
          refine lv_iload_n (pc := 178) hx hb dL_law_178 rfl (lv_at hl 3 rfl) ?_
          refine lv_iconst (v := 1) (pc := 179) hx hb dL_law_179 (by decide) ?_
          refine lv_iadd (pc := 180) hx hb dL_law_180 ?_
          obtain ⟨h4, hf⟩ := ck_some hf
          refine va_sld (pc := 181) hx hb hX hbl hbA hS h4 dL_law_181 ?_
          obtain ⟨x5, ex5, hf⟩ := bd_some hf
          refine ct_VB (pc := 182) (As := [.int (xs ((v3 + 1) : Int32).toNatClampNeg)]) (rest := []) (cb := [bX4 cI cZ a q w_O, bX2 cI (q 2) qC w_C]) (cb1 := [bX4 cI cZ a q w_O, bX2 cI (q 2) qC x5.2]) (bs1 := [bX4 cI cZ a q w_O, bX3 cI (q 0) qN w_N, bX3 cI (q 1) qT w_T, bX2 cI (q 2) qC x5.2, bX0 cI (q 12) qD w_D, bX1 (qD 13) w_DW, bX1 (qD 14) w_DP, bPA cI cS (q 3) w_PA, bIM cI cS (q 5) w_IM, bX5 cI cZ am qM w_M]) ⟨hx, hb, hml, hown, hts⟩ hK (c_X4_type l D cI cZ cS a q qC (xs ((v3 + 1) : Int32).toNatClampNeg) w_O w_C x5 ex5) gv_RL_13 rfl hs_X4_type rfl ⟨Nat.le_of_ble_eq_true rfl, Nat.le_of_ble_eq_true rfl⟩ (ci := 4) rfl rfl rfl hl.1 rfl (Nat.le_of_ble_eq_true rfl) dL_law_182 ⟨Nat.le_of_ble_eq_true rfl, Nat.le_of_ble_eq_true rfl⟩ hP hD hS hA [0, 3] [1, 2, 4, 5, 6, 7, 8, 9] [0, 2, 3, 1, 4, 5, 6, 7, 8, 9] (nb := 10) (nb1 := 10) rfl (by decide) rfl rfl rfl (by decide) rfl (fun H locs hP hD hS => ?_)
          refine lv_aload_n (pc := 185) hx hb dL_law_185 rfl (lv_at hl 2 rfl) ?_
          refine lv_aload_n (pc := 186) hx hb dL_law_186 rfl (lv_at hl 0 rfl) ?_
          refine lv_iload_n (pc := 187) hx hb dL_law_187 rfl (lv_at hl 3 rfl) ?_
          refine lv_iconst (v := 1) (pc := 188) hx hb dL_law_188 (by decide) ?_
          refine lv_iadd (pc := 189) hx hb dL_law_189 ?_
          obtain ⟨h6, hf⟩ := ck_some hf
          refine va_sld (pc := 190) hx hb hX hbl hbA hS h6 dL_law_190 ?_
          obtain ⟨x7, ex7, hf⟩ := bd_some hf
          refine ct_VB (pc := 191) (As := [.int (xs ((v3 + 1) : Int32).toNatClampNeg)]) (rest := [.int x5.1]) (cb := [bX5 cI cZ am qM w_M]) (cb1 := [bX5 cI cZ am qM x7.2]) (bs1 := [bX4 cI cZ a q w_O, bX3 cI (q 0) qN w_N, bX3 cI (q 1) qT w_T, bX2 cI (q 2) qC x5.2, bX0 cI (q 12) qD w_D, bX1 (qD 13) w_DW, bX1 (qD 14) w_DP, bPA cI cS (q 3) w_PA, bIM cI cS (q 5) w_IM, bX5 cI cZ am qM x7.2]) ⟨hx, hb, hml, hown, hts⟩ hK (c_X5_type l D cI cZ cS am qM (xs ((v3 + 1) : Int32).toNatClampNeg) w_M x7 ex7) gv_RL_17 rfl hs_X5_type rfl ⟨Nat.le_of_ble_eq_true rfl, Nat.le_of_ble_eq_true rfl⟩ (ci := 5) rfl rfl rfl hl.1 rfl (Nat.le_of_ble_eq_true rfl) dL_law_191 ⟨Nat.le_of_ble_eq_true rfl, Nat.le_of_ble_eq_true rfl⟩ hP hD hS hA [9] [0, 1, 2, 3, 4, 5, 6, 7, 8] [1, 2, 3, 4, 5, 6, 7, 8, 9, 0] (nb := 10) (nb1 := 10) rfl (by decide) rfl rfl rfl (by decide) rfl (fun H locs hP hD hS => ?_)
          refine lv_icmp_eq (pc := 194) (tgt := 1030) hx hb dL_law_194 (by decide) (fun c8 => ?_) (fun c8 => ?_)
          · replace hf := ip c8 hf
            refine lv_iinc (v := (v3 + 5)) (lv' := [(3, .int (v3 + 5)), (0, .ref b), (1, .ref a), (2, .ref am)]) (pc := 1030) hx hb dL_law_1030 hl (k := 3) rfl rfl (by decide) rfl (fun ls hl => ?_)
            refine lv_goto (pc := 1033) (tgt := 18) hx hb dL_law_1033 (by decide) ?_
            exact ih _ _ _ _ _ _ _ _ _ _ _ H locs ls hf hP hD hS (lv_sub hl [1, 2, 3, 0] rfl)
          · replace hf := im c8 hf
            refine lv_iconst (v := 0) (pc := 197) hx hb dL_law_197 (by decide) ?_
            exact absurd (Option.some.inj hf) (by decide)
        replace hf := im c3 hf
        by_cases c9 : ((xs (v3 : Int32).toNatClampNeg) &&& 31) = 1
        · refine lv_tableIn (pc := 32) (off := 167) (tgt := 199) hx hb dL_law_32 (by rw [c9]; decide) (by rw [c9]; decide) (by rw [c9]; decide) (by decide) ?_
          replace hf := ip c9 hf
          refine lv_aload_n (pc := 199) hx hb dL_law_199 rfl (lv_at hl 1 rfl) ?_
          obtain ⟨x10, ex10, hf⟩ := bd_some hf
          refine ct_VB (pc := 200) (As := []) (rest := []) (cb := [bX4 cI cZ a q w_O, bX2 cI (q 2) qC w_C]) (cb1 := [bX4 cI cZ a q w_O, bX2 cI (q 2) qC x10.2]) (bs1 := [bX4 cI cZ a q w_O, bX3 cI (q 0) qN w_N, bX3 cI (q 1) qT w_T, bX2 cI (q 2) qC x10.2, bX0 cI (q 12) qD w_D, bX1 (qD 13) w_DW, bX1 (qD 14) w_DP, bPA cI cS (q 3) w_PA, bIM cI cS (q 5) w_IM, bX5 cI cZ am qM w_M]) ⟨hx, hb, hml, hown, hts⟩ hK (c_X4_clear l D cI cZ cS a q qC w_O w_C x10 ex10) gv_RL_18 rfl hs_X4_clear rfl ⟨Nat.le_of_ble_eq_true rfl, Nat.le_of_ble_eq_true rfl⟩ (ci := 4) rfl rfl rfl hl.1 rfl (Nat.le_of_ble_eq_true rfl) dL_law_200 ⟨Nat.le_of_ble_eq_true rfl, Nat.le_of_ble_eq_true rfl⟩ hP hD hS hA [0, 3] [1, 2, 4, 5, 6, 7, 8, 9] [0, 2, 3, 1, 4, 5, 6, 7, 8, 9] (nb := 10) (nb1 := 10) rfl (by decide) rfl rfl rfl (by decide) rfl (fun H locs hP hD hS => ?_)
          refine lv_aload_n (pc := 203) hx hb dL_law_203 rfl (lv_at hl 2 rfl) ?_
          obtain ⟨x11, ex11, hf⟩ := bd_some hf
          refine ct_VB (pc := 204) (As := []) (rest := [.int x10.1]) (cb := [bX5 cI cZ am qM w_M]) (cb1 := [bX5 cI cZ am qM x11.2]) (bs1 := [bX4 cI cZ a q w_O, bX3 cI (q 0) qN w_N, bX3 cI (q 1) qT w_T, bX2 cI (q 2) qC x10.2, bX0 cI (q 12) qD w_D, bX1 (qD 13) w_DW, bX1 (qD 14) w_DP, bPA cI cS (q 3) w_PA, bIM cI cS (q 5) w_IM, bX5 cI cZ am qM x11.2]) ⟨hx, hb, hml, hown, hts⟩ hK (c_X5_clear l D cI cZ cS am qM w_M x11 ex11) gv_RL_22 rfl hs_X5_clear rfl ⟨Nat.le_of_ble_eq_true rfl, Nat.le_of_ble_eq_true rfl⟩ (ci := 5) rfl rfl rfl hl.1 rfl (Nat.le_of_ble_eq_true rfl) dL_law_204 ⟨Nat.le_of_ble_eq_true rfl, Nat.le_of_ble_eq_true rfl⟩ hP hD hS hA [9] [0, 1, 2, 3, 4, 5, 6, 7, 8] [1, 2, 3, 4, 5, 6, 7, 8, 9, 0] (nb := 10) (nb1 := 10) rfl (by decide) rfl rfl rfl (by decide) rfl (fun H locs hP hD hS => ?_)
          refine lv_icmp_eq (pc := 207) (tgt := 1030) hx hb dL_law_207 (by decide) (fun c12 => ?_) (fun c12 => ?_)
          · replace hf := ip c12 hf
            refine lv_iinc (v := (v3 + 5)) (lv' := [(3, .int (v3 + 5)), (0, .ref b), (1, .ref a), (2, .ref am)]) (pc := 1030) hx hb dL_law_1030 hl (k := 3) rfl rfl (by decide) rfl (fun ls hl => ?_)
            refine lv_goto (pc := 1033) (tgt := 18) hx hb dL_law_1033 (by decide) ?_
            exact ih _ _ _ _ _ _ _ _ _ _ _ H locs ls hf hP hD hS (lv_sub hl [1, 2, 3, 0] rfl)
          · replace hf := im c12 hf
            refine lv_iconst (v := 0) (pc := 210) hx hb dL_law_210 (by decide) ?_
            exact absurd (Option.some.inj hf) (by decide)
        replace hf := im c9 hf
        by_cases c13 : ((xs (v3 : Int32).toNatClampNeg) &&& 31) = 2
        · refine lv_tableIn (pc := 32) (off := 180) (tgt := 212) hx hb dL_law_32 (by rw [c13]; decide) (by rw [c13]; decide) (by rw [c13]; decide) (by decide) ?_
          replace hf := ip c13 hf
          refine lv_aload_n (pc := 212) hx hb dL_law_212 rfl (lv_at hl 1 rfl) ?_
          obtain ⟨x14, ex14, hf⟩ := bd_some hf
          refine ct_VB (pc := 213) (As := []) (rest := []) (cb := [bX4 cI cZ a q w_O, bX3 cI (q 0) qN w_N, bX3 cI (q 1) qT w_T, bX2 cI (q 2) qC w_C]) (cb1 := [bX4 cI cZ a q x14.2.1, bX3 cI (q 0) qN x14.2.2.1, bX3 cI (q 1) qT x14.2.2.2.1, bX2 cI (q 2) qC x14.2.2.2.2]) (bs1 := [bX4 cI cZ a q x14.2.1, bX3 cI (q 0) qN x14.2.2.1, bX3 cI (q 1) qT x14.2.2.2.1, bX2 cI (q 2) qC x14.2.2.2.2, bX0 cI (q 12) qD w_D, bX1 (qD 13) w_DW, bX1 (qD 14) w_DP, bPA cI cS (q 3) w_PA, bIM cI cS (q 5) w_IM, bX5 cI cZ am qM w_M]) ⟨hx, hb, hml, hown, hts⟩ hK (c_X4_tells l D cI cZ cS a q qN qT qC w_O w_N w_T w_C x14 ex14) gv_RL_23 rfl hs_X4_tells rfl ⟨Nat.le_of_ble_eq_true rfl, Nat.le_of_ble_eq_true rfl⟩ (ci := 4) rfl rfl rfl hl.1 rfl (Nat.le_of_ble_eq_true rfl) dL_law_213 ⟨Nat.le_of_ble_eq_true rfl, Nat.le_of_ble_eq_true rfl⟩ hP hD hS hA [0, 1, 2, 3] [4, 5, 6, 7, 8, 9] [0, 1, 2, 3, 4, 5, 6, 7, 8, 9] (nb := 10) (nb1 := 10) rfl (by decide) rfl rfl rfl (by decide) rfl (fun H locs hP hD hS => ?_)
          refine lv_aload_n (pc := 216) hx hb dL_law_216 rfl (lv_at hl 2 rfl) ?_
          obtain ⟨x15, ex15, hf⟩ := bd_some hf
          refine ct_VB (pc := 217) (As := []) (rest := [.int x14.1]) (cb := [bX5 cI cZ am qM w_M]) (cb1 := [bX5 cI cZ am qM x15.2]) (bs1 := [bX4 cI cZ a q x14.2.1, bX3 cI (q 0) qN x14.2.2.1, bX3 cI (q 1) qT x14.2.2.2.1, bX2 cI (q 2) qC x14.2.2.2.2, bX0 cI (q 12) qD w_D, bX1 (qD 13) w_DW, bX1 (qD 14) w_DP, bPA cI cS (q 3) w_PA, bIM cI cS (q 5) w_IM, bX5 cI cZ am qM x15.2]) ⟨hx, hb, hml, hown, hts⟩ hK (c_X5_tells l D cI cZ cS am qM w_M x15 ex15) gv_RL_26 rfl hs_X5_tells rfl ⟨Nat.le_of_ble_eq_true rfl, Nat.le_of_ble_eq_true rfl⟩ (ci := 5) rfl rfl rfl hl.1 rfl (Nat.le_of_ble_eq_true rfl) dL_law_217 ⟨Nat.le_of_ble_eq_true rfl, Nat.le_of_ble_eq_true rfl⟩ hP hD hS hA [9] [0, 1, 2, 3, 4, 5, 6, 7, 8] [1, 2, 3, 4, 5, 6, 7, 8, 9, 0] (nb := 10) (nb1 := 10) rfl (by decide) rfl rfl rfl (by decide) rfl (fun H locs hP hD hS => ?_)
          refine lv_icmp_eq (pc := 220) (tgt := 1030) hx hb dL_law_220 (by decide) (fun c16 => ?_) (fun c16 => ?_)
          · replace hf := ip c16 hf
            refine lv_iinc (v := (v3 + 5)) (lv' := [(3, .int (v3 + 5)), (0, .ref b), (1, .ref a), (2, .ref am)]) (pc := 1030) hx hb dL_law_1030 hl (k := 3) rfl rfl (by decide) rfl (fun ls hl => ?_)
            refine lv_goto (pc := 1033) (tgt := 18) hx hb dL_law_1033 (by decide) ?_
            exact ih _ _ _ _ _ _ _ _ _ _ _ H locs ls hf hP hD hS (lv_sub hl [1, 2, 3, 0] rfl)
          · replace hf := im c16 hf
            refine lv_iconst (v := 0) (pc := 223) hx hb dL_law_223 (by decide) ?_
            exact absurd (Option.some.inj hf) (by decide)
        replace hf := im c13 hf
        by_cases c17 : ((xs (v3 : Int32).toNatClampNeg) &&& 31) = 3
        · refine lv_tableIn (pc := 32) (off := 193) (tgt := 225) hx hb dL_law_32 (by rw [c17]; decide) (by rw [c17]; decide) (by rw [c17]; decide) (by decide) ?_
          replace hf := ip c17 hf
          refine lv_aload_n (pc := 225) hx hb dL_law_225 rfl (lv_at hl 1 rfl) ?_
          refine lv_aload_n (pc := 226) hx hb dL_law_226 rfl (lv_at hl 0 rfl) ?_
          refine lv_iload_n (pc := 227) hx hb dL_law_227 rfl (lv_at hl 3 rfl) ?_
          refine lv_iconst (v := 1) (pc := 228) hx hb dL_law_228 (by decide) ?_
          refine lv_iadd (pc := 229) hx hb dL_law_229 ?_
          obtain ⟨h18, hf⟩ := ck_some hf
          refine va_sld (pc := 230) hx hb hX hbl hbA hS h18 dL_law_230 ?_
          refine lv_aload_n (pc := 231) hx hb dL_law_231 rfl (lv_at hl 0 rfl) ?_
          refine lv_iload_n (pc := 232) hx hb dL_law_232 rfl (lv_at hl 3 rfl) ?_
          refine lv_iconst (v := 2) (pc := 233) hx hb dL_law_233 (by decide) ?_
          refine lv_iadd (pc := 234) hx hb dL_law_234 ?_
          obtain ⟨h19, hf⟩ := ck_some hf
          refine va_sld (pc := 235) hx hb hX hbl hbA hS h19 dL_law_235 ?_
          refine lv_aload_n (pc := 236) hx hb dL_law_236 rfl (lv_at hl 0 rfl) ?_
          refine lv_iload_n (pc := 237) hx hb dL_law_237 rfl (lv_at hl 3 rfl) ?_
          refine lv_iconst (v := 3) (pc := 238) hx hb dL_law_238 (by decide) ?_
          refine lv_iadd (pc := 239) hx hb dL_law_239 ?_
          obtain ⟨h20, hf⟩ := ck_some hf
          refine va_sld (pc := 240) hx hb hX hbl hbA hS h20 dL_law_240 ?_
          refine lv_aload_n (pc := 241) hx hb dL_law_241 rfl (lv_at hl 0 rfl) ?_
          refine lv_iload_n (pc := 242) hx hb dL_law_242 rfl (lv_at hl 3 rfl) ?_
          refine lv_iconst (v := 4) (pc := 243) hx hb dL_law_243 (by decide) ?_
          refine lv_iadd (pc := 244) hx hb dL_law_244 ?_
          obtain ⟨h21, hf⟩ := ck_some hf
          refine va_sld (pc := 245) hx hb hX hbl hbA hS h21 dL_law_245 ?_
          obtain ⟨x22, ex22, hf⟩ := bd_some hf
          refine ct_VB (pc := 246) (As := [.int (xs ((v3 + 1) : Int32).toNatClampNeg), .int (xs ((v3 + 2) : Int32).toNatClampNeg), .int (xs ((v3 + 3) : Int32).toNatClampNeg), .int (xs ((v3 + 4) : Int32).toNatClampNeg)]) (rest := []) (cb := [bX4 cI cZ a q w_O, bX3 cI (q 0) qN w_N, bPA cI cS (q 3) w_PA]) (cb1 := [bX4 cI cZ a q x22.2.1, bX3 cI (q 0) qN x22.2.2.1, bPA cI cS (q 3) x22.2.2.2]) (bs1 := [bX4 cI cZ a q x22.2.1, bX3 cI (q 0) qN x22.2.2.1, bX3 cI (q 1) qT w_T, bX2 cI (q 2) qC w_C, bX0 cI (q 12) qD w_D, bX1 (qD 13) w_DW, bX1 (qD 14) w_DP, bPA cI cS (q 3) x22.2.2.2, bIM cI cS (q 5) w_IM, bX5 cI cZ am qM w_M]) ⟨hx, hb, hml, hown, hts⟩ hK (c_X4_drives l D cI cZ cS a q qN (xs ((v3 + 1) : Int32).toNatClampNeg) (xs ((v3 + 2) : Int32).toNatClampNeg) (xs ((v3 + 3) : Int32).toNatClampNeg) (xs ((v3 + 4) : Int32).toNatClampNeg) w_O w_N w_PA x22 ex22) gv_RL_27 rfl hs_X4_drives rfl ⟨Nat.le_of_ble_eq_true rfl, Nat.le_of_ble_eq_true rfl⟩ (ci := 4) rfl rfl rfl hl.1 rfl (Nat.le_of_ble_eq_true rfl) dL_law_246 ⟨Nat.le_of_ble_eq_true rfl, Nat.le_of_ble_eq_true rfl⟩ hP hD hS hA [0, 1, 7] [2, 3, 4, 5, 6, 8, 9] [0, 1, 3, 4, 5, 6, 7, 2, 8, 9] (nb := 10) (nb1 := 10) rfl (by decide) rfl rfl rfl (by decide) rfl (fun H locs hP hD hS => ?_)
          refine lv_aload_n (pc := 249) hx hb dL_law_249 rfl (lv_at hl 2 rfl) ?_
          refine lv_aload_n (pc := 250) hx hb dL_law_250 rfl (lv_at hl 0 rfl) ?_
          refine lv_iload_n (pc := 251) hx hb dL_law_251 rfl (lv_at hl 3 rfl) ?_
          refine lv_iconst (v := 1) (pc := 252) hx hb dL_law_252 (by decide) ?_
          refine lv_iadd (pc := 253) hx hb dL_law_253 ?_
          obtain ⟨h23, hf⟩ := ck_some hf
          refine va_sld (pc := 254) hx hb hX hbl hbA hS h23 dL_law_254 ?_
          refine lv_aload_n (pc := 255) hx hb dL_law_255 rfl (lv_at hl 0 rfl) ?_
          refine lv_iload_n (pc := 256) hx hb dL_law_256 rfl (lv_at hl 3 rfl) ?_
          refine lv_iconst (v := 2) (pc := 257) hx hb dL_law_257 (by decide) ?_
          refine lv_iadd (pc := 258) hx hb dL_law_258 ?_
          obtain ⟨h24, hf⟩ := ck_some hf
          refine va_sld (pc := 259) hx hb hX hbl hbA hS h24 dL_law_259 ?_
          refine lv_aload_n (pc := 260) hx hb dL_law_260 rfl (lv_at hl 0 rfl) ?_
          refine lv_iload_n (pc := 261) hx hb dL_law_261 rfl (lv_at hl 3 rfl) ?_
          refine lv_iconst (v := 3) (pc := 262) hx hb dL_law_262 (by decide) ?_
          refine lv_iadd (pc := 263) hx hb dL_law_263 ?_
          obtain ⟨h25, hf⟩ := ck_some hf
          refine va_sld (pc := 264) hx hb hX hbl hbA hS h25 dL_law_264 ?_
          refine lv_aload_n (pc := 265) hx hb dL_law_265 rfl (lv_at hl 0 rfl) ?_
          refine lv_iload_n (pc := 266) hx hb dL_law_266 rfl (lv_at hl 3 rfl) ?_
          refine lv_iconst (v := 4) (pc := 267) hx hb dL_law_267 (by decide) ?_
          refine lv_iadd (pc := 268) hx hb dL_law_268 ?_
          obtain ⟨h26, hf⟩ := ck_some hf
          refine va_sld (pc := 269) hx hb hX hbl hbA hS h26 dL_law_269 ?_
          obtain ⟨x27, ex27, hf⟩ := bd_some hf
          refine ct_VB (pc := 270) (As := [.int (xs ((v3 + 1) : Int32).toNatClampNeg), .int (xs ((v3 + 2) : Int32).toNatClampNeg), .int (xs ((v3 + 3) : Int32).toNatClampNeg), .int (xs ((v3 + 4) : Int32).toNatClampNeg)]) (rest := [.int x22.1]) (cb := [bX5 cI cZ am qM w_M]) (cb1 := [bX5 cI cZ am qM x27.2]) (bs1 := [bX4 cI cZ a q x22.2.1, bX3 cI (q 0) qN x22.2.2.1, bX3 cI (q 1) qT w_T, bX2 cI (q 2) qC w_C, bX0 cI (q 12) qD w_D, bX1 (qD 13) w_DW, bX1 (qD 14) w_DP, bPA cI cS (q 3) x22.2.2.2, bIM cI cS (q 5) w_IM, bX5 cI cZ am qM x27.2]) ⟨hx, hb, hml, hown, hts⟩ hK (c_X5_drives l D cI cZ cS am qM (xs ((v3 + 1) : Int32).toNatClampNeg) (xs ((v3 + 2) : Int32).toNatClampNeg) (xs ((v3 + 3) : Int32).toNatClampNeg) (xs ((v3 + 4) : Int32).toNatClampNeg) w_M x27 ex27) gv_RL_31 rfl hs_X5_drives rfl ⟨Nat.le_of_ble_eq_true rfl, Nat.le_of_ble_eq_true rfl⟩ (ci := 5) rfl rfl rfl hl.1 rfl (Nat.le_of_ble_eq_true rfl) dL_law_270 ⟨Nat.le_of_ble_eq_true rfl, Nat.le_of_ble_eq_true rfl⟩ hP hD hS hA [9] [0, 1, 2, 3, 4, 5, 6, 7, 8] [1, 2, 3, 4, 5, 6, 7, 8, 9, 0] (nb := 10) (nb1 := 10) rfl (by decide) rfl rfl rfl (by decide) rfl (fun H locs hP hD hS => ?_)
          refine lv_icmp_eq (pc := 273) (tgt := 1030) hx hb dL_law_273 (by decide) (fun c28 => ?_) (fun c28 => ?_)
          · replace hf := ip c28 hf
            refine lv_iinc (v := (v3 + 5)) (lv' := [(3, .int (v3 + 5)), (0, .ref b), (1, .ref a), (2, .ref am)]) (pc := 1030) hx hb dL_law_1030 hl (k := 3) rfl rfl (by decide) rfl (fun ls hl => ?_)
            refine lv_goto (pc := 1033) (tgt := 18) hx hb dL_law_1033 (by decide) ?_
            exact ih _ _ _ _ _ _ _ _ _ _ _ H locs ls hf hP hD hS (lv_sub hl [1, 2, 3, 0] rfl)
          · replace hf := im c28 hf
            refine lv_iconst (v := 0) (pc := 276) hx hb dL_law_276 (by decide) ?_
            exact absurd (Option.some.inj hf) (by decide)
        replace hf := im c17 hf
        by_cases c29 : ((xs (v3 : Int32).toNatClampNeg) &&& 31) = 4
        · refine lv_tableIn (pc := 32) (off := 246) (tgt := 278) hx hb dL_law_32 (by rw [c29]; decide) (by rw [c29]; decide) (by rw [c29]; decide) (by decide) ?_
          replace hf := ip c29 hf
          refine lv_aload_n (pc := 278) hx hb dL_law_278 rfl (lv_at hl 1 rfl) ?_
          refine lv_aload_n (pc := 279) hx hb dL_law_279 rfl (lv_at hl 0 rfl) ?_
          refine lv_iload_n (pc := 280) hx hb dL_law_280 rfl (lv_at hl 3 rfl) ?_
          refine lv_iconst (v := 1) (pc := 281) hx hb dL_law_281 (by decide) ?_
          refine lv_iadd (pc := 282) hx hb dL_law_282 ?_
          obtain ⟨h30, hf⟩ := ck_some hf
          refine va_sld (pc := 283) hx hb hX hbl hbA hS h30 dL_law_283 ?_
          obtain ⟨x31, ex31, hf⟩ := bd_some hf
          refine ct_VB (pc := 284) (As := [.int (xs ((v3 + 1) : Int32).toNatClampNeg)]) (rest := []) (cb := [bX4 cI cZ a q w_O, bX3 cI (q 0) qN w_N, bPA cI cS (q 3) w_PA]) (cb1 := [bX4 cI cZ a q x31.2.1, bX3 cI (q 0) qN x31.2.2.1, bPA cI cS (q 3) x31.2.2.2]) (bs1 := [bX4 cI cZ a q x31.2.1, bX3 cI (q 0) qN x31.2.2.1, bX3 cI (q 1) qT w_T, bX2 cI (q 2) qC w_C, bX0 cI (q 12) qD w_D, bX1 (qD 13) w_DW, bX1 (qD 14) w_DP, bPA cI cS (q 3) x31.2.2.2, bIM cI cS (q 5) w_IM, bX5 cI cZ am qM w_M]) ⟨hx, hb, hml, hown, hts⟩ hK (c_X4_loses l D cI cZ cS a q qN (xs ((v3 + 1) : Int32).toNatClampNeg) w_O w_N w_PA x31 ex31) gv_RL_32 rfl hs_X4_loses rfl ⟨Nat.le_of_ble_eq_true rfl, Nat.le_of_ble_eq_true rfl⟩ (ci := 4) rfl rfl rfl hl.1 rfl (Nat.le_of_ble_eq_true rfl) dL_law_284 ⟨Nat.le_of_ble_eq_true rfl, Nat.le_of_ble_eq_true rfl⟩ hP hD hS hA [0, 1, 7] [2, 3, 4, 5, 6, 8, 9] [0, 1, 3, 4, 5, 6, 7, 2, 8, 9] (nb := 10) (nb1 := 10) rfl (by decide) rfl rfl rfl (by decide) rfl (fun H locs hP hD hS => ?_)
          refine lv_aload_n (pc := 287) hx hb dL_law_287 rfl (lv_at hl 2 rfl) ?_
          refine lv_aload_n (pc := 288) hx hb dL_law_288 rfl (lv_at hl 0 rfl) ?_
          refine lv_iload_n (pc := 289) hx hb dL_law_289 rfl (lv_at hl 3 rfl) ?_
          refine lv_iconst (v := 1) (pc := 290) hx hb dL_law_290 (by decide) ?_
          refine lv_iadd (pc := 291) hx hb dL_law_291 ?_
          obtain ⟨h32, hf⟩ := ck_some hf
          refine va_sld (pc := 292) hx hb hX hbl hbA hS h32 dL_law_292 ?_
          obtain ⟨x33, ex33, hf⟩ := bd_some hf
          refine ct_VB (pc := 293) (As := [.int (xs ((v3 + 1) : Int32).toNatClampNeg)]) (rest := [.int x31.1]) (cb := [bX5 cI cZ am qM w_M]) (cb1 := [bX5 cI cZ am qM x33.2]) (bs1 := [bX4 cI cZ a q x31.2.1, bX3 cI (q 0) qN x31.2.2.1, bX3 cI (q 1) qT w_T, bX2 cI (q 2) qC w_C, bX0 cI (q 12) qD w_D, bX1 (qD 13) w_DW, bX1 (qD 14) w_DP, bPA cI cS (q 3) x31.2.2.2, bIM cI cS (q 5) w_IM, bX5 cI cZ am qM x33.2]) ⟨hx, hb, hml, hown, hts⟩ hK (c_X5_loses l D cI cZ cS am qM (xs ((v3 + 1) : Int32).toNatClampNeg) w_M x33 ex33) gv_RL_35 rfl hs_X5_loses rfl ⟨Nat.le_of_ble_eq_true rfl, Nat.le_of_ble_eq_true rfl⟩ (ci := 5) rfl rfl rfl hl.1 rfl (Nat.le_of_ble_eq_true rfl) dL_law_293 ⟨Nat.le_of_ble_eq_true rfl, Nat.le_of_ble_eq_true rfl⟩ hP hD hS hA [9] [0, 1, 2, 3, 4, 5, 6, 7, 8] [1, 2, 3, 4, 5, 6, 7, 8, 9, 0] (nb := 10) (nb1 := 10) rfl (by decide) rfl rfl rfl (by decide) rfl (fun H locs hP hD hS => ?_)
          refine lv_icmp_eq (pc := 296) (tgt := 1030) hx hb dL_law_296 (by decide) (fun c34 => ?_) (fun c34 => ?_)
          · replace hf := ip c34 hf
            refine lv_iinc (v := (v3 + 5)) (lv' := [(3, .int (v3 + 5)), (0, .ref b), (1, .ref a), (2, .ref am)]) (pc := 1030) hx hb dL_law_1030 hl (k := 3) rfl rfl (by decide) rfl (fun ls hl => ?_)
            refine lv_goto (pc := 1033) (tgt := 18) hx hb dL_law_1033 (by decide) ?_
            exact ih _ _ _ _ _ _ _ _ _ _ _ H locs ls hf hP hD hS (lv_sub hl [1, 2, 3, 0] rfl)
          · replace hf := im c34 hf
            refine lv_iconst (v := 0) (pc := 299) hx hb dL_law_299 (by decide) ?_
            exact absurd (Option.some.inj hf) (by decide)
        replace hf := im c29 hf
        by_cases c35 : ((xs (v3 : Int32).toNatClampNeg) &&& 31) = 5
        · refine lv_tableIn (pc := 32) (off := 269) (tgt := 301) hx hb dL_law_32 (by rw [c35]; decide) (by rw [c35]; decide) (by rw [c35]; decide) (by decide) ?_
          replace hf := ip c35 hf
          refine lv_aload_n (pc := 301) hx hb dL_law_301 rfl (lv_at hl 1 rfl) ?_
          refine lv_aload_n (pc := 302) hx hb dL_law_302 rfl (lv_at hl 0 rfl) ?_
          refine lv_iload_n (pc := 303) hx hb dL_law_303 rfl (lv_at hl 3 rfl) ?_
          refine lv_iconst (v := 1) (pc := 304) hx hb dL_law_304 (by decide) ?_
          refine lv_iadd (pc := 305) hx hb dL_law_305 ?_
          obtain ⟨h36, hf⟩ := ck_some hf
          refine va_sld (pc := 306) hx hb hX hbl hbA hS h36 dL_law_306 ?_
          obtain ⟨x37, ex37, hf⟩ := bd_some hf
          refine ct_VB (pc := 307) (As := [.int (xs ((v3 + 1) : Int32).toNatClampNeg)]) (rest := []) (cb := [bX4 cI cZ a q w_O, bX3 cI (q 0) qN w_N, bPA cI cS (q 3) w_PA]) (cb1 := [bX4 cI cZ a q x37.2.1, bX3 cI (q 0) qN x37.2.2.1, bPA cI cS (q 3) x37.2.2.2]) (bs1 := [bX4 cI cZ a q x37.2.1, bX3 cI (q 0) qN x37.2.2.1, bX3 cI (q 1) qT w_T, bX2 cI (q 2) qC w_C, bX0 cI (q 12) qD w_D, bX1 (qD 13) w_DW, bX1 (qD 14) w_DP, bPA cI cS (q 3) x37.2.2.2, bIM cI cS (q 5) w_IM, bX5 cI cZ am qM w_M]) ⟨hx, hb, hml, hown, hts⟩ hK (c_X4_mends l D cI cZ cS a q qN (xs ((v3 + 1) : Int32).toNatClampNeg) w_O w_N w_PA x37 ex37) gv_RL_36 rfl hs_X4_mends rfl ⟨Nat.le_of_ble_eq_true rfl, Nat.le_of_ble_eq_true rfl⟩ (ci := 4) rfl rfl rfl hl.1 rfl (Nat.le_of_ble_eq_true rfl) dL_law_307 ⟨Nat.le_of_ble_eq_true rfl, Nat.le_of_ble_eq_true rfl⟩ hP hD hS hA [0, 1, 7] [2, 3, 4, 5, 6, 8, 9] [0, 1, 3, 4, 5, 6, 7, 2, 8, 9] (nb := 10) (nb1 := 10) rfl (by decide) rfl rfl rfl (by decide) rfl (fun H locs hP hD hS => ?_)
          refine lv_aload_n (pc := 310) hx hb dL_law_310 rfl (lv_at hl 2 rfl) ?_
          refine lv_aload_n (pc := 311) hx hb dL_law_311 rfl (lv_at hl 0 rfl) ?_
          refine lv_iload_n (pc := 312) hx hb dL_law_312 rfl (lv_at hl 3 rfl) ?_
          refine lv_iconst (v := 1) (pc := 313) hx hb dL_law_313 (by decide) ?_
          refine lv_iadd (pc := 314) hx hb dL_law_314 ?_
          obtain ⟨h38, hf⟩ := ck_some hf
          refine va_sld (pc := 315) hx hb hX hbl hbA hS h38 dL_law_315 ?_
          obtain ⟨x39, ex39, hf⟩ := bd_some hf
          refine ct_VB (pc := 316) (As := [.int (xs ((v3 + 1) : Int32).toNatClampNeg)]) (rest := [.int x37.1]) (cb := [bX5 cI cZ am qM w_M]) (cb1 := [bX5 cI cZ am qM x39.2]) (bs1 := [bX4 cI cZ a q x37.2.1, bX3 cI (q 0) qN x37.2.2.1, bX3 cI (q 1) qT w_T, bX2 cI (q 2) qC w_C, bX0 cI (q 12) qD w_D, bX1 (qD 13) w_DW, bX1 (qD 14) w_DP, bPA cI cS (q 3) x37.2.2.2, bIM cI cS (q 5) w_IM, bX5 cI cZ am qM x39.2]) ⟨hx, hb, hml, hown, hts⟩ hK (c_X5_mends l D cI cZ cS am qM (xs ((v3 + 1) : Int32).toNatClampNeg) w_M x39 ex39) gv_RL_39 rfl hs_X5_mends rfl ⟨Nat.le_of_ble_eq_true rfl, Nat.le_of_ble_eq_true rfl⟩ (ci := 5) rfl rfl rfl hl.1 rfl (Nat.le_of_ble_eq_true rfl) dL_law_316 ⟨Nat.le_of_ble_eq_true rfl, Nat.le_of_ble_eq_true rfl⟩ hP hD hS hA [9] [0, 1, 2, 3, 4, 5, 6, 7, 8] [1, 2, 3, 4, 5, 6, 7, 8, 9, 0] (nb := 10) (nb1 := 10) rfl (by decide) rfl rfl rfl (by decide) rfl (fun H locs hP hD hS => ?_)
          refine lv_icmp_eq (pc := 319) (tgt := 1030) hx hb dL_law_319 (by decide) (fun c40 => ?_) (fun c40 => ?_)
          · replace hf := ip c40 hf
            refine lv_iinc (v := (v3 + 5)) (lv' := [(3, .int (v3 + 5)), (0, .ref b), (1, .ref a), (2, .ref am)]) (pc := 1030) hx hb dL_law_1030 hl (k := 3) rfl rfl (by decide) rfl (fun ls hl => ?_)
            refine lv_goto (pc := 1033) (tgt := 18) hx hb dL_law_1033 (by decide) ?_
            exact ih _ _ _ _ _ _ _ _ _ _ _ H locs ls hf hP hD hS (lv_sub hl [1, 2, 3, 0] rfl)
          · replace hf := im c40 hf
            refine lv_iconst (v := 0) (pc := 322) hx hb dL_law_322 (by decide) ?_
            exact absurd (Option.some.inj hf) (by decide)
        replace hf := im c35 hf
        by_cases c41 : ((xs (v3 : Int32).toNatClampNeg) &&& 31) = 6
        · refine lv_tableIn (pc := 32) (off := 292) (tgt := 324) hx hb dL_law_32 (by rw [c41]; decide) (by rw [c41]; decide) (by rw [c41]; decide) (by decide) ?_
          replace hf := ip c41 hf
          refine lv_aload_n (pc := 324) hx hb dL_law_324 rfl (lv_at hl 1 rfl) ?_
          refine lv_aload_n (pc := 325) hx hb dL_law_325 rfl (lv_at hl 0 rfl) ?_
          refine lv_iload_n (pc := 326) hx hb dL_law_326 rfl (lv_at hl 3 rfl) ?_
          refine lv_iconst (v := 1) (pc := 327) hx hb dL_law_327 (by decide) ?_
          refine lv_iadd (pc := 328) hx hb dL_law_328 ?_
          obtain ⟨h42, hf⟩ := ck_some hf
          refine va_sld (pc := 329) hx hb hX hbl hbA hS h42 dL_law_329 ?_
          refine lv_aload_n (pc := 330) hx hb dL_law_330 rfl (lv_at hl 0 rfl) ?_
          refine lv_iload_n (pc := 331) hx hb dL_law_331 rfl (lv_at hl 3 rfl) ?_
          refine lv_iconst (v := 2) (pc := 332) hx hb dL_law_332 (by decide) ?_
          refine lv_iadd (pc := 333) hx hb dL_law_333 ?_
          obtain ⟨h43, hf⟩ := ck_some hf
          refine va_sld (pc := 334) hx hb hX hbl hbA hS h43 dL_law_334 ?_
          obtain ⟨x44, ex44, hf⟩ := bd_some hf
          refine ct_VB (pc := 335) (As := [.int (xs ((v3 + 1) : Int32).toNatClampNeg), .int (xs ((v3 + 2) : Int32).toNatClampNeg)]) (rest := []) (cb := [bX4 cI cZ a q w_O, bX3 cI (q 0) qN w_N, bPA cI cS (q 3) w_PA]) (cb1 := [bX4 cI cZ a q x44.2.1, bX3 cI (q 0) qN x44.2.2.1, bPA cI cS (q 3) x44.2.2.2]) (bs1 := [bX4 cI cZ a q x44.2.1, bX3 cI (q 0) qN x44.2.2.1, bX3 cI (q 1) qT w_T, bX2 cI (q 2) qC w_C, bX0 cI (q 12) qD w_D, bX1 (qD 13) w_DW, bX1 (qD 14) w_DP, bPA cI cS (q 3) x44.2.2.2, bIM cI cS (q 5) w_IM, bX5 cI cZ am qM w_M]) ⟨hx, hb, hml, hown, hts⟩ hK (c_X4_loads l D cI cZ cS a q qN (xs ((v3 + 1) : Int32).toNatClampNeg) (xs ((v3 + 2) : Int32).toNatClampNeg) w_O w_N w_PA x44 ex44) gv_RL_40 rfl hs_X4_loads rfl ⟨Nat.le_of_ble_eq_true rfl, Nat.le_of_ble_eq_true rfl⟩ (ci := 4) rfl rfl rfl hl.1 rfl (Nat.le_of_ble_eq_true rfl) dL_law_335 ⟨Nat.le_of_ble_eq_true rfl, Nat.le_of_ble_eq_true rfl⟩ hP hD hS hA [0, 1, 7] [2, 3, 4, 5, 6, 8, 9] [0, 1, 3, 4, 5, 6, 7, 2, 8, 9] (nb := 10) (nb1 := 10) rfl (by decide) rfl rfl rfl (by decide) rfl (fun H locs hP hD hS => ?_)
          refine lv_aload_n (pc := 338) hx hb dL_law_338 rfl (lv_at hl 2 rfl) ?_
          refine lv_aload_n (pc := 339) hx hb dL_law_339 rfl (lv_at hl 0 rfl) ?_
          refine lv_iload_n (pc := 340) hx hb dL_law_340 rfl (lv_at hl 3 rfl) ?_
          refine lv_iconst (v := 1) (pc := 341) hx hb dL_law_341 (by decide) ?_
          refine lv_iadd (pc := 342) hx hb dL_law_342 ?_
          obtain ⟨h45, hf⟩ := ck_some hf
          refine va_sld (pc := 343) hx hb hX hbl hbA hS h45 dL_law_343 ?_
          refine lv_aload_n (pc := 344) hx hb dL_law_344 rfl (lv_at hl 0 rfl) ?_
          refine lv_iload_n (pc := 345) hx hb dL_law_345 rfl (lv_at hl 3 rfl) ?_
          refine lv_iconst (v := 2) (pc := 346) hx hb dL_law_346 (by decide) ?_
          refine lv_iadd (pc := 347) hx hb dL_law_347 ?_
          obtain ⟨h46, hf⟩ := ck_some hf
          refine va_sld (pc := 348) hx hb hX hbl hbA hS h46 dL_law_348 ?_
          obtain ⟨x47, ex47, hf⟩ := bd_some hf
          refine ct_VB (pc := 349) (As := [.int (xs ((v3 + 1) : Int32).toNatClampNeg), .int (xs ((v3 + 2) : Int32).toNatClampNeg)]) (rest := [.int x44.1]) (cb := [bX5 cI cZ am qM w_M]) (cb1 := [bX5 cI cZ am qM x47.2]) (bs1 := [bX4 cI cZ a q x44.2.1, bX3 cI (q 0) qN x44.2.2.1, bX3 cI (q 1) qT w_T, bX2 cI (q 2) qC w_C, bX0 cI (q 12) qD w_D, bX1 (qD 13) w_DW, bX1 (qD 14) w_DP, bPA cI cS (q 3) x44.2.2.2, bIM cI cS (q 5) w_IM, bX5 cI cZ am qM x47.2]) ⟨hx, hb, hml, hown, hts⟩ hK (c_X5_loads l D cI cZ cS am qM (xs ((v3 + 1) : Int32).toNatClampNeg) (xs ((v3 + 2) : Int32).toNatClampNeg) w_M x47 ex47) gv_RL_44 rfl hs_X5_loads rfl ⟨Nat.le_of_ble_eq_true rfl, Nat.le_of_ble_eq_true rfl⟩ (ci := 5) rfl rfl rfl hl.1 rfl (Nat.le_of_ble_eq_true rfl) dL_law_349 ⟨Nat.le_of_ble_eq_true rfl, Nat.le_of_ble_eq_true rfl⟩ hP hD hS hA [9] [0, 1, 2, 3, 4, 5, 6, 7, 8] [1, 2, 3, 4, 5, 6, 7, 8, 9, 0] (nb := 10) (nb1 := 10) rfl (by decide) rfl rfl rfl (by decide) rfl (fun H locs hP hD hS => ?_)
          refine lv_icmp_eq (pc := 352) (tgt := 1030) hx hb dL_law_352 (by decide) (fun c48 => ?_) (fun c48 => ?_)
          · replace hf := ip c48 hf
            refine lv_iinc (v := (v3 + 5)) (lv' := [(3, .int (v3 + 5)), (0, .ref b), (1, .ref a), (2, .ref am)]) (pc := 1030) hx hb dL_law_1030 hl (k := 3) rfl rfl (by decide) rfl (fun ls hl => ?_)
            refine lv_goto (pc := 1033) (tgt := 18) hx hb dL_law_1033 (by decide) ?_
            exact ih _ _ _ _ _ _ _ _ _ _ _ H locs ls hf hP hD hS (lv_sub hl [1, 2, 3, 0] rfl)
          · replace hf := im c48 hf
            refine lv_iconst (v := 0) (pc := 355) hx hb dL_law_355 (by decide) ?_
            exact absurd (Option.some.inj hf) (by decide)
        replace hf := im c41 hf
        by_cases c49 : ((xs (v3 : Int32).toNatClampNeg) &&& 31) = 7
        · refine lv_tableIn (pc := 32) (off := 325) (tgt := 357) hx hb dL_law_32 (by rw [c49]; decide) (by rw [c49]; decide) (by rw [c49]; decide) (by decide) ?_
          replace hf := ip c49 hf
          refine lv_aload_n (pc := 357) hx hb dL_law_357 rfl (lv_at hl 1 rfl) ?_
          refine lv_aload_n (pc := 358) hx hb dL_law_358 rfl (lv_at hl 0 rfl) ?_
          refine lv_iload_n (pc := 359) hx hb dL_law_359 rfl (lv_at hl 3 rfl) ?_
          refine lv_iconst (v := 1) (pc := 360) hx hb dL_law_360 (by decide) ?_
          refine lv_iadd (pc := 361) hx hb dL_law_361 ?_
          obtain ⟨h50, hf⟩ := ck_some hf
          refine va_sld (pc := 362) hx hb hX hbl hbA hS h50 dL_law_362 ?_
          refine lv_aload_n (pc := 363) hx hb dL_law_363 rfl (lv_at hl 0 rfl) ?_
          refine lv_iload_n (pc := 364) hx hb dL_law_364 rfl (lv_at hl 3 rfl) ?_
          refine lv_iconst (v := 2) (pc := 365) hx hb dL_law_365 (by decide) ?_
          refine lv_iadd (pc := 366) hx hb dL_law_366 ?_
          obtain ⟨h51, hf⟩ := ck_some hf
          refine va_sld (pc := 367) hx hb hX hbl hbA hS h51 dL_law_367 ?_
          refine lv_aload_n (pc := 368) hx hb dL_law_368 rfl (lv_at hl 0 rfl) ?_
          refine lv_iload_n (pc := 369) hx hb dL_law_369 rfl (lv_at hl 3 rfl) ?_
          refine lv_iconst (v := 3) (pc := 370) hx hb dL_law_370 (by decide) ?_
          refine lv_iadd (pc := 371) hx hb dL_law_371 ?_
          obtain ⟨h52, hf⟩ := ck_some hf
          refine va_sld (pc := 372) hx hb hX hbl hbA hS h52 dL_law_372 ?_
          obtain ⟨x53, ex53, hf⟩ := bd_some hf
          refine ct_VB (pc := 373) (As := [.int (xs ((v3 + 1) : Int32).toNatClampNeg), .int (xs ((v3 + 2) : Int32).toNatClampNeg), .int (xs ((v3 + 3) : Int32).toNatClampNeg)]) (rest := []) (cb := [bX4 cI cZ a q w_O, bX3 cI (q 0) qN w_N, bPA cI cS (q 3) w_PA]) (cb1 := [bX4 cI cZ a q x53.2.1, bX3 cI (q 0) qN x53.2.2.1, bPA cI cS (q 3) x53.2.2.2]) (bs1 := [bX4 cI cZ a q x53.2.1, bX3 cI (q 0) qN x53.2.2.1, bX3 cI (q 1) qT w_T, bX2 cI (q 2) qC w_C, bX0 cI (q 12) qD w_D, bX1 (qD 13) w_DW, bX1 (qD 14) w_DP, bPA cI cS (q 3) x53.2.2.2, bIM cI cS (q 5) w_IM, bX5 cI cZ am qM w_M]) ⟨hx, hb, hml, hown, hts⟩ hK (c_X4_moves l D cI cZ cS a q qN (xs ((v3 + 1) : Int32).toNatClampNeg) (xs ((v3 + 2) : Int32).toNatClampNeg) (xs ((v3 + 3) : Int32).toNatClampNeg) w_O w_N w_PA x53 ex53) gv_RL_45 rfl hs_X4_moves rfl ⟨Nat.le_of_ble_eq_true rfl, Nat.le_of_ble_eq_true rfl⟩ (ci := 4) rfl rfl rfl hl.1 rfl (Nat.le_of_ble_eq_true rfl) dL_law_373 ⟨Nat.le_of_ble_eq_true rfl, Nat.le_of_ble_eq_true rfl⟩ hP hD hS hA [0, 1, 7] [2, 3, 4, 5, 6, 8, 9] [0, 1, 3, 4, 5, 6, 7, 2, 8, 9] (nb := 10) (nb1 := 10) rfl (by decide) rfl rfl rfl (by decide) rfl (fun H locs hP hD hS => ?_)
          refine lv_aload_n (pc := 376) hx hb dL_law_376 rfl (lv_at hl 2 rfl) ?_
          refine lv_aload_n (pc := 377) hx hb dL_law_377 rfl (lv_at hl 0 rfl) ?_
          refine lv_iload_n (pc := 378) hx hb dL_law_378 rfl (lv_at hl 3 rfl) ?_
          refine lv_iconst (v := 1) (pc := 379) hx hb dL_law_379 (by decide) ?_
          refine lv_iadd (pc := 380) hx hb dL_law_380 ?_
          obtain ⟨h54, hf⟩ := ck_some hf
          refine va_sld (pc := 381) hx hb hX hbl hbA hS h54 dL_law_381 ?_
          refine lv_aload_n (pc := 382) hx hb dL_law_382 rfl (lv_at hl 0 rfl) ?_
          refine lv_iload_n (pc := 383) hx hb dL_law_383 rfl (lv_at hl 3 rfl) ?_
          refine lv_iconst (v := 2) (pc := 384) hx hb dL_law_384 (by decide) ?_
          refine lv_iadd (pc := 385) hx hb dL_law_385 ?_
          obtain ⟨h55, hf⟩ := ck_some hf
          refine va_sld (pc := 386) hx hb hX hbl hbA hS h55 dL_law_386 ?_
          refine lv_aload_n (pc := 387) hx hb dL_law_387 rfl (lv_at hl 0 rfl) ?_
          refine lv_iload_n (pc := 388) hx hb dL_law_388 rfl (lv_at hl 3 rfl) ?_
          refine lv_iconst (v := 3) (pc := 389) hx hb dL_law_389 (by decide) ?_
          refine lv_iadd (pc := 390) hx hb dL_law_390 ?_
          obtain ⟨h56, hf⟩ := ck_some hf
          refine va_sld (pc := 391) hx hb hX hbl hbA hS h56 dL_law_391 ?_
          obtain ⟨x57, ex57, hf⟩ := bd_some hf
          refine ct_VB (pc := 392) (As := [.int (xs ((v3 + 1) : Int32).toNatClampNeg), .int (xs ((v3 + 2) : Int32).toNatClampNeg), .int (xs ((v3 + 3) : Int32).toNatClampNeg)]) (rest := [.int x53.1]) (cb := [bX5 cI cZ am qM w_M]) (cb1 := [bX5 cI cZ am qM x57.2]) (bs1 := [bX4 cI cZ a q x53.2.1, bX3 cI (q 0) qN x53.2.2.1, bX3 cI (q 1) qT w_T, bX2 cI (q 2) qC w_C, bX0 cI (q 12) qD w_D, bX1 (qD 13) w_DW, bX1 (qD 14) w_DP, bPA cI cS (q 3) x53.2.2.2, bIM cI cS (q 5) w_IM, bX5 cI cZ am qM x57.2]) ⟨hx, hb, hml, hown, hts⟩ hK (c_X5_moves l D cI cZ cS am qM (xs ((v3 + 1) : Int32).toNatClampNeg) (xs ((v3 + 2) : Int32).toNatClampNeg) (xs ((v3 + 3) : Int32).toNatClampNeg) w_M x57 ex57) gv_RL_49 rfl hs_X5_moves rfl ⟨Nat.le_of_ble_eq_true rfl, Nat.le_of_ble_eq_true rfl⟩ (ci := 5) rfl rfl rfl hl.1 rfl (Nat.le_of_ble_eq_true rfl) dL_law_392 ⟨Nat.le_of_ble_eq_true rfl, Nat.le_of_ble_eq_true rfl⟩ hP hD hS hA [9] [0, 1, 2, 3, 4, 5, 6, 7, 8] [1, 2, 3, 4, 5, 6, 7, 8, 9, 0] (nb := 10) (nb1 := 10) rfl (by decide) rfl rfl rfl (by decide) rfl (fun H locs hP hD hS => ?_)
          refine lv_icmp_eq (pc := 395) (tgt := 1030) hx hb dL_law_395 (by decide) (fun c58 => ?_) (fun c58 => ?_)
          · replace hf := ip c58 hf
            refine lv_iinc (v := (v3 + 5)) (lv' := [(3, .int (v3 + 5)), (0, .ref b), (1, .ref a), (2, .ref am)]) (pc := 1030) hx hb dL_law_1030 hl (k := 3) rfl rfl (by decide) rfl (fun ls hl => ?_)
            refine lv_goto (pc := 1033) (tgt := 18) hx hb dL_law_1033 (by decide) ?_
            exact ih _ _ _ _ _ _ _ _ _ _ _ H locs ls hf hP hD hS (lv_sub hl [1, 2, 3, 0] rfl)
          · replace hf := im c58 hf
            refine lv_iconst (v := 0) (pc := 398) hx hb dL_law_398 (by decide) ?_
            exact absurd (Option.some.inj hf) (by decide)
        replace hf := im c49 hf
        by_cases c59 : ((xs (v3 : Int32).toNatClampNeg) &&& 31) = 8
        · refine lv_tableIn (pc := 32) (off := 368) (tgt := 400) hx hb dL_law_32 (by rw [c59]; decide) (by rw [c59]; decide) (by rw [c59]; decide) (by decide) ?_
          replace hf := ip c59 hf
          refine lv_aload_n (pc := 400) hx hb dL_law_400 rfl (lv_at hl 1 rfl) ?_
          refine lv_aload_n (pc := 401) hx hb dL_law_401 rfl (lv_at hl 0 rfl) ?_
          refine lv_iload_n (pc := 402) hx hb dL_law_402 rfl (lv_at hl 3 rfl) ?_
          refine lv_iconst (v := 1) (pc := 403) hx hb dL_law_403 (by decide) ?_
          refine lv_iadd (pc := 404) hx hb dL_law_404 ?_
          obtain ⟨h60, hf⟩ := ck_some hf
          refine va_sld (pc := 405) hx hb hX hbl hbA hS h60 dL_law_405 ?_
          refine lv_aload_n (pc := 406) hx hb dL_law_406 rfl (lv_at hl 0 rfl) ?_
          refine lv_iload_n (pc := 407) hx hb dL_law_407 rfl (lv_at hl 3 rfl) ?_
          refine lv_iconst (v := 2) (pc := 408) hx hb dL_law_408 (by decide) ?_
          refine lv_iadd (pc := 409) hx hb dL_law_409 ?_
          obtain ⟨h61, hf⟩ := ck_some hf
          refine va_sld (pc := 410) hx hb hX hbl hbA hS h61 dL_law_410 ?_
          obtain ⟨x62, ex62, hf⟩ := bd_some hf
          refine ct_VB (pc := 411) (As := [.int (xs ((v3 + 1) : Int32).toNatClampNeg), .int (xs ((v3 + 2) : Int32).toNatClampNeg)]) (rest := []) (cb := [bX4 cI cZ a q w_O, bX3 cI (q 0) qN w_N, bPA cI cS (q 3) w_PA]) (cb1 := [bX4 cI cZ a q x62.2.1, bX3 cI (q 0) qN x62.2.2.1, bPA cI cS (q 3) x62.2.2.2]) (bs1 := [bX4 cI cZ a q x62.2.1, bX3 cI (q 0) qN x62.2.2.1, bX3 cI (q 1) qT w_T, bX2 cI (q 2) qC w_C, bX0 cI (q 12) qD w_D, bX1 (qD 13) w_DW, bX1 (qD 14) w_DP, bPA cI cS (q 3) x62.2.2.2, bIM cI cS (q 5) w_IM, bX5 cI cZ am qM w_M]) ⟨hx, hb, hml, hown, hts⟩ hK (c_X4_winds l D cI cZ cS a q qN (xs ((v3 + 1) : Int32).toNatClampNeg) (xs ((v3 + 2) : Int32).toNatClampNeg) w_O w_N w_PA x62 ex62) gv_RL_50 rfl hs_X4_winds rfl ⟨Nat.le_of_ble_eq_true rfl, Nat.le_of_ble_eq_true rfl⟩ (ci := 4) rfl rfl rfl hl.1 rfl (Nat.le_of_ble_eq_true rfl) dL_law_411 ⟨Nat.le_of_ble_eq_true rfl, Nat.le_of_ble_eq_true rfl⟩ hP hD hS hA [0, 1, 7] [2, 3, 4, 5, 6, 8, 9] [0, 1, 3, 4, 5, 6, 7, 2, 8, 9] (nb := 10) (nb1 := 10) rfl (by decide) rfl rfl rfl (by decide) rfl (fun H locs hP hD hS => ?_)
          refine lv_aload_n (pc := 414) hx hb dL_law_414 rfl (lv_at hl 2 rfl) ?_
          refine lv_aload_n (pc := 415) hx hb dL_law_415 rfl (lv_at hl 0 rfl) ?_
          refine lv_iload_n (pc := 416) hx hb dL_law_416 rfl (lv_at hl 3 rfl) ?_
          refine lv_iconst (v := 1) (pc := 417) hx hb dL_law_417 (by decide) ?_
          refine lv_iadd (pc := 418) hx hb dL_law_418 ?_
          obtain ⟨h63, hf⟩ := ck_some hf
          refine va_sld (pc := 419) hx hb hX hbl hbA hS h63 dL_law_419 ?_
          refine lv_aload_n (pc := 420) hx hb dL_law_420 rfl (lv_at hl 0 rfl) ?_
          refine lv_iload_n (pc := 421) hx hb dL_law_421 rfl (lv_at hl 3 rfl) ?_
          refine lv_iconst (v := 2) (pc := 422) hx hb dL_law_422 (by decide) ?_
          refine lv_iadd (pc := 423) hx hb dL_law_423 ?_
          obtain ⟨h64, hf⟩ := ck_some hf
          refine va_sld (pc := 424) hx hb hX hbl hbA hS h64 dL_law_424 ?_
          obtain ⟨x65, ex65, hf⟩ := bd_some hf
          refine ct_VB (pc := 425) (As := [.int (xs ((v3 + 1) : Int32).toNatClampNeg), .int (xs ((v3 + 2) : Int32).toNatClampNeg)]) (rest := [.int x62.1]) (cb := [bX5 cI cZ am qM w_M]) (cb1 := [bX5 cI cZ am qM x65.2]) (bs1 := [bX4 cI cZ a q x62.2.1, bX3 cI (q 0) qN x62.2.2.1, bX3 cI (q 1) qT w_T, bX2 cI (q 2) qC w_C, bX0 cI (q 12) qD w_D, bX1 (qD 13) w_DW, bX1 (qD 14) w_DP, bPA cI cS (q 3) x62.2.2.2, bIM cI cS (q 5) w_IM, bX5 cI cZ am qM x65.2]) ⟨hx, hb, hml, hown, hts⟩ hK (c_X5_winds l D cI cZ cS am qM (xs ((v3 + 1) : Int32).toNatClampNeg) (xs ((v3 + 2) : Int32).toNatClampNeg) w_M x65 ex65) gv_RL_53 rfl hs_X5_winds rfl ⟨Nat.le_of_ble_eq_true rfl, Nat.le_of_ble_eq_true rfl⟩ (ci := 5) rfl rfl rfl hl.1 rfl (Nat.le_of_ble_eq_true rfl) dL_law_425 ⟨Nat.le_of_ble_eq_true rfl, Nat.le_of_ble_eq_true rfl⟩ hP hD hS hA [9] [0, 1, 2, 3, 4, 5, 6, 7, 8] [1, 2, 3, 4, 5, 6, 7, 8, 9, 0] (nb := 10) (nb1 := 10) rfl (by decide) rfl rfl rfl (by decide) rfl (fun H locs hP hD hS => ?_)
          refine lv_icmp_eq (pc := 428) (tgt := 1030) hx hb dL_law_428 (by decide) (fun c66 => ?_) (fun c66 => ?_)
          · replace hf := ip c66 hf
            refine lv_iinc (v := (v3 + 5)) (lv' := [(3, .int (v3 + 5)), (0, .ref b), (1, .ref a), (2, .ref am)]) (pc := 1030) hx hb dL_law_1030 hl (k := 3) rfl rfl (by decide) rfl (fun ls hl => ?_)
            refine lv_goto (pc := 1033) (tgt := 18) hx hb dL_law_1033 (by decide) ?_
            exact ih _ _ _ _ _ _ _ _ _ _ _ H locs ls hf hP hD hS (lv_sub hl [1, 2, 3, 0] rfl)
          · replace hf := im c66 hf
            refine lv_iconst (v := 0) (pc := 431) hx hb dL_law_431 (by decide) ?_
            exact absurd (Option.some.inj hf) (by decide)
        replace hf := im c59 hf
        by_cases c67 : ((xs (v3 : Int32).toNatClampNeg) &&& 31) = 9
        · refine lv_tableIn (pc := 32) (off := 401) (tgt := 433) hx hb dL_law_32 (by rw [c67]; decide) (by rw [c67]; decide) (by rw [c67]; decide) (by decide) ?_
          replace hf := ip c67 hf
          refine lv_aload_n (pc := 433) hx hb dL_law_433 rfl (lv_at hl 1 rfl) ?_
          obtain ⟨x68, ex68, hf⟩ := bd_some hf
          refine ct_VB (pc := 434) (As := []) (rest := []) (cb := [bX4 cI cZ a q w_O, bX3 cI (q 0) qN w_N, bPA cI cS (q 3) w_PA]) (cb1 := [bX4 cI cZ a q x68.2.1, bX3 cI (q 0) qN x68.2.2, bPA cI cS (q 3) w_PA]) (bs1 := [bX4 cI cZ a q x68.2.1, bX3 cI (q 0) qN x68.2.2, bX3 cI (q 1) qT w_T, bX2 cI (q 2) qC w_C, bX0 cI (q 12) qD w_D, bX1 (qD 13) w_DW, bX1 (qD 14) w_DP, bPA cI cS (q 3) w_PA, bIM cI cS (q 5) w_IM, bX5 cI cZ am qM w_M]) ⟨hx, hb, hml, hown, hts⟩ hK (c_X4_undo l D cI cZ cS a q qN w_O w_N w_PA x68 ex68) gv_RL_54 rfl hs_X4_undo rfl ⟨Nat.le_of_ble_eq_true rfl, Nat.le_of_ble_eq_true rfl⟩ (ci := 4) rfl rfl rfl hl.1 rfl (Nat.le_of_ble_eq_true rfl) dL_law_434 ⟨Nat.le_of_ble_eq_true rfl, Nat.le_of_ble_eq_true rfl⟩ hP hD hS hA [0, 1, 7] [2, 3, 4, 5, 6, 8, 9] [0, 1, 3, 4, 5, 6, 7, 2, 8, 9] (nb := 10) (nb1 := 10) rfl (by decide) rfl rfl rfl (by decide) rfl (fun H locs hP hD hS => ?_)
          refine lv_aload_n (pc := 437) hx hb dL_law_437 rfl (lv_at hl 2 rfl) ?_
          obtain ⟨x69, ex69, hf⟩ := bd_some hf
          refine ct_VB (pc := 438) (As := []) (rest := [.int x68.1]) (cb := [bX5 cI cZ am qM w_M]) (cb1 := [bX5 cI cZ am qM x69.2]) (bs1 := [bX4 cI cZ a q x68.2.1, bX3 cI (q 0) qN x68.2.2, bX3 cI (q 1) qT w_T, bX2 cI (q 2) qC w_C, bX0 cI (q 12) qD w_D, bX1 (qD 13) w_DW, bX1 (qD 14) w_DP, bPA cI cS (q 3) w_PA, bIM cI cS (q 5) w_IM, bX5 cI cZ am qM x69.2]) ⟨hx, hb, hml, hown, hts⟩ hK (c_X5_undo l D cI cZ cS am qM w_M x69 ex69) gv_RL_57 rfl hs_X5_undo rfl ⟨Nat.le_of_ble_eq_true rfl, Nat.le_of_ble_eq_true rfl⟩ (ci := 5) rfl rfl rfl hl.1 rfl (Nat.le_of_ble_eq_true rfl) dL_law_438 ⟨Nat.le_of_ble_eq_true rfl, Nat.le_of_ble_eq_true rfl⟩ hP hD hS hA [9] [0, 1, 2, 3, 4, 5, 6, 7, 8] [1, 2, 3, 4, 5, 6, 7, 8, 9, 0] (nb := 10) (nb1 := 10) rfl (by decide) rfl rfl rfl (by decide) rfl (fun H locs hP hD hS => ?_)
          refine lv_icmp_eq (pc := 441) (tgt := 1030) hx hb dL_law_441 (by decide) (fun c70 => ?_) (fun c70 => ?_)
          · replace hf := ip c70 hf
            refine lv_iinc (v := (v3 + 5)) (lv' := [(3, .int (v3 + 5)), (0, .ref b), (1, .ref a), (2, .ref am)]) (pc := 1030) hx hb dL_law_1030 hl (k := 3) rfl rfl (by decide) rfl (fun ls hl => ?_)
            refine lv_goto (pc := 1033) (tgt := 18) hx hb dL_law_1033 (by decide) ?_
            exact ih _ _ _ _ _ _ _ _ _ _ _ H locs ls hf hP hD hS (lv_sub hl [1, 2, 3, 0] rfl)
          · replace hf := im c70 hf
            refine lv_iconst (v := 0) (pc := 444) hx hb dL_law_444 (by decide) ?_
            exact absurd (Option.some.inj hf) (by decide)
        replace hf := im c67 hf
        by_cases c71 : ((xs (v3 : Int32).toNatClampNeg) &&& 31) = 10
        · refine lv_tableIn (pc := 32) (off := 414) (tgt := 446) hx hb dL_law_32 (by rw [c71]; decide) (by rw [c71]; decide) (by rw [c71]; decide) (by decide) ?_
          replace hf := ip c71 hf
          refine lv_aload_n (pc := 446) hx hb dL_law_446 rfl (lv_at hl 1 rfl) ?_
          refine lv_aload_n (pc := 447) hx hb dL_law_447 rfl (lv_at hl 0 rfl) ?_
          refine lv_iload_n (pc := 448) hx hb dL_law_448 rfl (lv_at hl 3 rfl) ?_
          refine lv_iconst (v := 1) (pc := 449) hx hb dL_law_449 (by decide) ?_
          refine lv_iadd (pc := 450) hx hb dL_law_450 ?_
          obtain ⟨h72, hf⟩ := ck_some hf
          refine va_sld (pc := 451) hx hb hX hbl hbA hS h72 dL_law_451 ?_
          refine lv_aload_n (pc := 452) hx hb dL_law_452 rfl (lv_at hl 0 rfl) ?_
          refine lv_iload_n (pc := 453) hx hb dL_law_453 rfl (lv_at hl 3 rfl) ?_
          refine lv_iconst (v := 2) (pc := 454) hx hb dL_law_454 (by decide) ?_
          refine lv_iadd (pc := 455) hx hb dL_law_455 ?_
          obtain ⟨h73, hf⟩ := ck_some hf
          refine va_sld (pc := 456) hx hb hX hbl hbA hS h73 dL_law_456 ?_
          obtain ⟨x74, ex74, hf⟩ := bd_some hf
          refine ct_VB (pc := 457) (As := [.int (xs ((v3 + 1) : Int32).toNatClampNeg), .int (xs ((v3 + 2) : Int32).toNatClampNeg)]) (rest := []) (cb := [bX4 cI cZ a q w_O, bX3 cI (q 0) qN w_N, bX0 cI (q 12) qD w_D, bX1 (qD 13) w_DW, bX1 (qD 14) w_DP]) (cb1 := [bX4 cI cZ a q w_O, bX3 cI (q 0) qN w_N, bX0 cI (q 12) qD x74.2.1, bX1 (qD 13) x74.2.2.1, bX1 (qD 14) x74.2.2.2]) (bs1 := [bX4 cI cZ a q w_O, bX3 cI (q 0) qN w_N, bX3 cI (q 1) qT w_T, bX2 cI (q 2) qC w_C, bX0 cI (q 12) qD x74.2.1, bX1 (qD 13) x74.2.2.1, bX1 (qD 14) x74.2.2.2, bPA cI cS (q 3) w_PA, bIM cI cS (q 5) w_IM, bX5 cI cZ am qM w_M]) ⟨hx, hb, hml, hown, hts⟩ hK (c_X4_pile l D cI cZ cS a q qN qD (xs ((v3 + 1) : Int32).toNatClampNeg) (xs ((v3 + 2) : Int32).toNatClampNeg) w_O w_N w_D w_DW w_DP x74 ex74) gv_RL_58 rfl hs_X4_pile rfl ⟨Nat.le_of_ble_eq_true rfl, Nat.le_of_ble_eq_true rfl⟩ (ci := 4) rfl rfl rfl hl.1 rfl (Nat.le_of_ble_eq_true rfl) dL_law_457 ⟨Nat.le_of_ble_eq_true rfl, Nat.le_of_ble_eq_true rfl⟩ hP hD hS hA [0, 1, 4, 5, 6] [2, 3, 7, 8, 9] [0, 1, 5, 6, 2, 3, 4, 7, 8, 9] (nb := 10) (nb1 := 10) rfl (by decide) rfl rfl rfl (by decide) rfl (fun H locs hP hD hS => ?_)
          refine lv_aload_n (pc := 460) hx hb dL_law_460 rfl (lv_at hl 2 rfl) ?_
          refine lv_aload_n (pc := 461) hx hb dL_law_461 rfl (lv_at hl 0 rfl) ?_
          refine lv_iload_n (pc := 462) hx hb dL_law_462 rfl (lv_at hl 3 rfl) ?_
          refine lv_iconst (v := 1) (pc := 463) hx hb dL_law_463 (by decide) ?_
          refine lv_iadd (pc := 464) hx hb dL_law_464 ?_
          obtain ⟨h75, hf⟩ := ck_some hf
          refine va_sld (pc := 465) hx hb hX hbl hbA hS h75 dL_law_465 ?_
          refine lv_aload_n (pc := 466) hx hb dL_law_466 rfl (lv_at hl 0 rfl) ?_
          refine lv_iload_n (pc := 467) hx hb dL_law_467 rfl (lv_at hl 3 rfl) ?_
          refine lv_iconst (v := 2) (pc := 468) hx hb dL_law_468 (by decide) ?_
          refine lv_iadd (pc := 469) hx hb dL_law_469 ?_
          obtain ⟨h76, hf⟩ := ck_some hf
          refine va_sld (pc := 470) hx hb hX hbl hbA hS h76 dL_law_470 ?_
          obtain ⟨x77, ex77, hf⟩ := bd_some hf
          refine ct_VB (pc := 471) (As := [.int (xs ((v3 + 1) : Int32).toNatClampNeg), .int (xs ((v3 + 2) : Int32).toNatClampNeg)]) (rest := [.long x74.1]) (cb := [bX5 cI cZ am qM w_M]) (cb1 := [bX5 cI cZ am qM x77.2]) (bs1 := [bX4 cI cZ a q w_O, bX3 cI (q 0) qN w_N, bX3 cI (q 1) qT w_T, bX2 cI (q 2) qC w_C, bX0 cI (q 12) qD x74.2.1, bX1 (qD 13) x74.2.2.1, bX1 (qD 14) x74.2.2.2, bPA cI cS (q 3) w_PA, bIM cI cS (q 5) w_IM, bX5 cI cZ am qM x77.2]) ⟨hx, hb, hml, hown, hts⟩ hK (c_X5_pile l D cI cZ cS am qM (xs ((v3 + 1) : Int32).toNatClampNeg) (xs ((v3 + 2) : Int32).toNatClampNeg) w_M x77 ex77) gv_RL_62 rfl hs_X5_pile rfl ⟨Nat.le_of_ble_eq_true rfl, Nat.le_of_ble_eq_true rfl⟩ (ci := 5) rfl rfl rfl hl.1 rfl (Nat.le_of_ble_eq_true rfl) dL_law_471 ⟨Nat.le_of_ble_eq_true rfl, Nat.le_of_ble_eq_true rfl⟩ hP hD hS hA [9] [0, 1, 2, 3, 4, 5, 6, 7, 8] [1, 2, 3, 4, 5, 6, 7, 8, 9, 0] (nb := 10) (nb1 := 10) rfl (by decide) rfl rfl rfl (by decide) rfl (fun H locs hP hD hS => ?_)
          refine W.lcmp (pc := 474) hx hb dL_law_474 ?_
          refine lv_if_eq (pc := 475) (tgt := 1030) hx hb dL_law_475 (by decide) (fun c78 => ?_) (fun c78 => ?_)
          · replace c78 := (lg_cmp_eq _ _).mp c78
            replace hf := ip c78 hf
            refine lv_iinc (v := (v3 + 5)) (lv' := [(3, .int (v3 + 5)), (0, .ref b), (1, .ref a), (2, .ref am)]) (pc := 1030) hx hb dL_law_1030 hl (k := 3) rfl rfl (by decide) rfl (fun ls hl => ?_)
            refine lv_goto (pc := 1033) (tgt := 18) hx hb dL_law_1033 (by decide) ?_
            exact ih _ _ _ _ _ _ _ _ _ _ _ H locs ls hf hP hD hS (lv_sub hl [1, 2, 3, 0] rfl)
          · replace c78 := fun q => c78 ((lg_cmp_eq _ _).mpr q)
            replace hf := im c78 hf
            refine lv_iconst (v := 0) (pc := 478) hx hb dL_law_478 (by decide) ?_
            exact absurd (Option.some.inj hf) (by decide)
        replace hf := im c71 hf
        by_cases c79 : ((xs (v3 : Int32).toNatClampNeg) &&& 31) = 11
        · refine lv_tableIn (pc := 32) (off := 448) (tgt := 480) hx hb dL_law_32 (by rw [c79]; decide) (by rw [c79]; decide) (by rw [c79]; decide) (by decide) ?_
          replace hf := ip c79 hf
          refine lv_aload_n (pc := 480) hx hb dL_law_480 rfl (lv_at hl 1 rfl) ?_
          refine lv_aload_n (pc := 481) hx hb dL_law_481 rfl (lv_at hl 0 rfl) ?_
          refine lv_iload_n (pc := 482) hx hb dL_law_482 rfl (lv_at hl 3 rfl) ?_
          refine lv_iconst (v := 1) (pc := 483) hx hb dL_law_483 (by decide) ?_
          refine lv_iadd (pc := 484) hx hb dL_law_484 ?_
          obtain ⟨h80, hf⟩ := ck_some hf
          refine va_sld (pc := 485) hx hb hX hbl hbA hS h80 dL_law_485 ?_
          refine lv_aload_n (pc := 486) hx hb dL_law_486 rfl (lv_at hl 0 rfl) ?_
          refine lv_iload_n (pc := 487) hx hb dL_law_487 rfl (lv_at hl 3 rfl) ?_
          refine lv_iconst (v := 2) (pc := 488) hx hb dL_law_488 (by decide) ?_
          refine lv_iadd (pc := 489) hx hb dL_law_489 ?_
          obtain ⟨h81, hf⟩ := ck_some hf
          refine va_sld (pc := 490) hx hb hX hbl hbA hS h81 dL_law_490 ?_
          obtain ⟨x82, ex82, hf⟩ := bd_some hf
          refine ct_VB (pc := 491) (As := [.int (xs ((v3 + 1) : Int32).toNatClampNeg), .int (xs ((v3 + 2) : Int32).toNatClampNeg)]) (rest := []) (cb := [bX4 cI cZ a q w_O, bX3 cI (q 0) qN w_N]) (cb1 := [bX4 cI cZ a q w_O, bX3 cI (q 0) qN w_N]) (bs1 := [bX4 cI cZ a q w_O, bX3 cI (q 0) qN w_N, bX3 cI (q 1) qT w_T, bX2 cI (q 2) qC w_C, bX0 cI (q 12) qD w_D, bX1 (qD 13) w_DW, bX1 (qD 14) w_DP, bPA cI cS (q 3) w_PA, bIM cI cS (q 5) w_IM, bX5 cI cZ am qM w_M]) ⟨hx, hb, hml, hown, hts⟩ hK (c_X4_column l D cI cZ cS a q qN (xs ((v3 + 1) : Int32).toNatClampNeg) (xs ((v3 + 2) : Int32).toNatClampNeg) w_O w_N x82 ex82) gv_RL_63 rfl hs_X4_column rfl ⟨Nat.le_of_ble_eq_true rfl, Nat.le_of_ble_eq_true rfl⟩ (ci := 4) rfl rfl rfl hl.1 rfl (Nat.le_of_ble_eq_true rfl) dL_law_491 ⟨Nat.le_of_ble_eq_true rfl, Nat.le_of_ble_eq_true rfl⟩ hP hD hS hA [0, 1] [2, 3, 4, 5, 6, 7, 8, 9] [0, 1, 2, 3, 4, 5, 6, 7, 8, 9] (nb := 10) (nb1 := 10) rfl (by decide) rfl rfl rfl (by decide) rfl (fun H locs hP hD hS => ?_)
          refine lv_aload_n (pc := 494) hx hb dL_law_494 rfl (lv_at hl 2 rfl) ?_
          refine lv_aload_n (pc := 495) hx hb dL_law_495 rfl (lv_at hl 0 rfl) ?_
          refine lv_iload_n (pc := 496) hx hb dL_law_496 rfl (lv_at hl 3 rfl) ?_
          refine lv_iconst (v := 1) (pc := 497) hx hb dL_law_497 (by decide) ?_
          refine lv_iadd (pc := 498) hx hb dL_law_498 ?_
          obtain ⟨h83, hf⟩ := ck_some hf
          refine va_sld (pc := 499) hx hb hX hbl hbA hS h83 dL_law_499 ?_
          refine lv_aload_n (pc := 500) hx hb dL_law_500 rfl (lv_at hl 0 rfl) ?_
          refine lv_iload_n (pc := 501) hx hb dL_law_501 rfl (lv_at hl 3 rfl) ?_
          refine lv_iconst (v := 2) (pc := 502) hx hb dL_law_502 (by decide) ?_
          refine lv_iadd (pc := 503) hx hb dL_law_503 ?_
          obtain ⟨h84, hf⟩ := ck_some hf
          refine va_sld (pc := 504) hx hb hX hbl hbA hS h84 dL_law_504 ?_
          obtain ⟨x85, ex85, hf⟩ := bd_some hf
          refine ct_VB (pc := 505) (As := [.int (xs ((v3 + 1) : Int32).toNatClampNeg), .int (xs ((v3 + 2) : Int32).toNatClampNeg)]) (rest := [.long x82]) (cb := [bX5 cI cZ am qM w_M]) (cb1 := [bX5 cI cZ am qM w_M]) (bs1 := [bX4 cI cZ a q w_O, bX3 cI (q 0) qN w_N, bX3 cI (q 1) qT w_T, bX2 cI (q 2) qC w_C, bX0 cI (q 12) qD w_D, bX1 (qD 13) w_DW, bX1 (qD 14) w_DP, bPA cI cS (q 3) w_PA, bIM cI cS (q 5) w_IM, bX5 cI cZ am qM w_M]) ⟨hx, hb, hml, hown, hts⟩ hK (c_X5_column l D cI cZ cS am qM (xs ((v3 + 1) : Int32).toNatClampNeg) (xs ((v3 + 2) : Int32).toNatClampNeg) w_M x85 ex85) gv_RL_66 rfl hs_X5_column rfl ⟨Nat.le_of_ble_eq_true rfl, Nat.le_of_ble_eq_true rfl⟩ (ci := 5) rfl rfl rfl hl.1 rfl (Nat.le_of_ble_eq_true rfl) dL_law_505 ⟨Nat.le_of_ble_eq_true rfl, Nat.le_of_ble_eq_true rfl⟩ hP hD hS hA [9] [0, 1, 2, 3, 4, 5, 6, 7, 8] [1, 2, 3, 4, 5, 6, 7, 8, 9, 0] (nb := 10) (nb1 := 10) rfl (by decide) rfl rfl rfl (by decide) rfl (fun H locs hP hD hS => ?_)
          refine W.lcmp (pc := 508) hx hb dL_law_508 ?_
          refine lv_if_eq (pc := 509) (tgt := 1030) hx hb dL_law_509 (by decide) (fun c86 => ?_) (fun c86 => ?_)
          · replace c86 := (lg_cmp_eq _ _).mp c86
            replace hf := ip c86 hf
            refine lv_iinc (v := (v3 + 5)) (lv' := [(3, .int (v3 + 5)), (0, .ref b), (1, .ref a), (2, .ref am)]) (pc := 1030) hx hb dL_law_1030 hl (k := 3) rfl rfl (by decide) rfl (fun ls hl => ?_)
            refine lv_goto (pc := 1033) (tgt := 18) hx hb dL_law_1033 (by decide) ?_
            exact ih _ _ _ _ _ _ _ _ _ _ _ H locs ls hf hP hD hS (lv_sub hl [1, 2, 3, 0] rfl)
          · replace c86 := fun q => c86 ((lg_cmp_eq _ _).mpr q)
            replace hf := im c86 hf
            refine lv_iconst (v := 0) (pc := 512) hx hb dL_law_512 (by decide) ?_
            exact absurd (Option.some.inj hf) (by decide)
        replace hf := im c79 hf
        by_cases c87 : ((xs (v3 : Int32).toNatClampNeg) &&& 31) = 12
        · refine lv_tableIn (pc := 32) (off := 482) (tgt := 514) hx hb dL_law_32 (by rw [c87]; decide) (by rw [c87]; decide) (by rw [c87]; decide) (by decide) ?_
          replace hf := ip c87 hf
          refine lv_aload_n (pc := 514) hx hb dL_law_514 rfl (lv_at hl 1 rfl) ?_
          refine lv_aload_n (pc := 515) hx hb dL_law_515 rfl (lv_at hl 0 rfl) ?_
          refine lv_iload_n (pc := 516) hx hb dL_law_516 rfl (lv_at hl 3 rfl) ?_
          refine lv_iconst (v := 1) (pc := 517) hx hb dL_law_517 (by decide) ?_
          refine lv_iadd (pc := 518) hx hb dL_law_518 ?_
          obtain ⟨h88, hf⟩ := ck_some hf
          refine va_sld (pc := 519) hx hb hX hbl hbA hS h88 dL_law_519 ?_
          obtain ⟨x89, ex89, hf⟩ := bd_some hf
          refine ct_VB (pc := 520) (As := [.int (xs ((v3 + 1) : Int32).toNatClampNeg)]) (rest := []) (cb := [bX4 cI cZ a q w_O, bX3 cI (q 0) qN w_N]) (cb1 := [bX4 cI cZ a q w_O, bX3 cI (q 0) qN w_N]) (bs1 := [bX4 cI cZ a q w_O, bX3 cI (q 0) qN w_N, bX3 cI (q 1) qT w_T, bX2 cI (q 2) qC w_C, bX0 cI (q 12) qD w_D, bX1 (qD 13) w_DW, bX1 (qD 14) w_DP, bPA cI cS (q 3) w_PA, bIM cI cS (q 5) w_IM, bX5 cI cZ am qM w_M]) ⟨hx, hb, hml, hown, hts⟩ hK (c_X4_sum l D cI cZ cS a q qN (xs ((v3 + 1) : Int32).toNatClampNeg) w_O w_N x89 ex89) gv_RL_67 rfl hs_X4_sum rfl ⟨Nat.le_of_ble_eq_true rfl, Nat.le_of_ble_eq_true rfl⟩ (ci := 4) rfl rfl rfl hl.1 rfl (Nat.le_of_ble_eq_true rfl) dL_law_520 ⟨Nat.le_of_ble_eq_true rfl, Nat.le_of_ble_eq_true rfl⟩ hP hD hS hA [0, 1] [2, 3, 4, 5, 6, 7, 8, 9] [0, 1, 2, 3, 4, 5, 6, 7, 8, 9] (nb := 10) (nb1 := 10) rfl (by decide) rfl rfl rfl (by decide) rfl (fun H locs hP hD hS => ?_)
          refine lv_aload_n (pc := 523) hx hb dL_law_523 rfl (lv_at hl 2 rfl) ?_
          refine lv_aload_n (pc := 524) hx hb dL_law_524 rfl (lv_at hl 0 rfl) ?_
          refine lv_iload_n (pc := 525) hx hb dL_law_525 rfl (lv_at hl 3 rfl) ?_
          refine lv_iconst (v := 1) (pc := 526) hx hb dL_law_526 (by decide) ?_
          refine lv_iadd (pc := 527) hx hb dL_law_527 ?_
          obtain ⟨h90, hf⟩ := ck_some hf
          refine va_sld (pc := 528) hx hb hX hbl hbA hS h90 dL_law_528 ?_
          obtain ⟨x91, ex91, hf⟩ := bd_some hf
          refine ct_VB (pc := 529) (As := [.int (xs ((v3 + 1) : Int32).toNatClampNeg)]) (rest := [.long x89]) (cb := [bX5 cI cZ am qM w_M]) (cb1 := [bX5 cI cZ am qM w_M]) (bs1 := [bX4 cI cZ a q w_O, bX3 cI (q 0) qN w_N, bX3 cI (q 1) qT w_T, bX2 cI (q 2) qC w_C, bX0 cI (q 12) qD w_D, bX1 (qD 13) w_DW, bX1 (qD 14) w_DP, bPA cI cS (q 3) w_PA, bIM cI cS (q 5) w_IM, bX5 cI cZ am qM w_M]) ⟨hx, hb, hml, hown, hts⟩ hK (c_X5_sum l D cI cZ cS am qM (xs ((v3 + 1) : Int32).toNatClampNeg) w_M x91 ex91) gv_RL_71 rfl hs_X5_sum rfl ⟨Nat.le_of_ble_eq_true rfl, Nat.le_of_ble_eq_true rfl⟩ (ci := 5) rfl rfl rfl hl.1 rfl (Nat.le_of_ble_eq_true rfl) dL_law_529 ⟨Nat.le_of_ble_eq_true rfl, Nat.le_of_ble_eq_true rfl⟩ hP hD hS hA [9] [0, 1, 2, 3, 4, 5, 6, 7, 8] [1, 2, 3, 4, 5, 6, 7, 8, 9, 0] (nb := 10) (nb1 := 10) rfl (by decide) rfl rfl rfl (by decide) rfl (fun H locs hP hD hS => ?_)
          refine W.lcmp (pc := 532) hx hb dL_law_532 ?_
          refine lv_if_eq (pc := 533) (tgt := 1030) hx hb dL_law_533 (by decide) (fun c92 => ?_) (fun c92 => ?_)
          · replace c92 := (lg_cmp_eq _ _).mp c92
            replace hf := ip c92 hf
            refine lv_iinc (v := (v3 + 5)) (lv' := [(3, .int (v3 + 5)), (0, .ref b), (1, .ref a), (2, .ref am)]) (pc := 1030) hx hb dL_law_1030 hl (k := 3) rfl rfl (by decide) rfl (fun ls hl => ?_)
            refine lv_goto (pc := 1033) (tgt := 18) hx hb dL_law_1033 (by decide) ?_
            exact ih _ _ _ _ _ _ _ _ _ _ _ H locs ls hf hP hD hS (lv_sub hl [1, 2, 3, 0] rfl)
          · replace c92 := fun q => c92 ((lg_cmp_eq _ _).mpr q)
            replace hf := im c92 hf
            refine lv_iconst (v := 0) (pc := 536) hx hb dL_law_536 (by decide) ?_
            exact absurd (Option.some.inj hf) (by decide)
        replace hf := im c87 hf
        by_cases c93 : ((xs (v3 : Int32).toNatClampNeg) &&& 31) = 13
        · refine lv_tableIn (pc := 32) (off := 506) (tgt := 538) hx hb dL_law_32 (by rw [c93]; decide) (by rw [c93]; decide) (by rw [c93]; decide) (by decide) ?_
          replace hf := ip c93 hf
          refine lv_aload_n (pc := 538) hx hb dL_law_538 rfl (lv_at hl 1 rfl) ?_
          refine lv_aload_n (pc := 539) hx hb dL_law_539 rfl (lv_at hl 0 rfl) ?_
          refine lv_iload_n (pc := 540) hx hb dL_law_540 rfl (lv_at hl 3 rfl) ?_
          refine lv_iconst (v := 1) (pc := 541) hx hb dL_law_541 (by decide) ?_
          refine lv_iadd (pc := 542) hx hb dL_law_542 ?_
          obtain ⟨h94, hf⟩ := ck_some hf
          refine va_sld (pc := 543) hx hb hX hbl hbA hS h94 dL_law_543 ?_
          obtain ⟨x95, ex95, hf⟩ := bd_some hf
          refine ct_VB (pc := 544) (As := [.int (xs ((v3 + 1) : Int32).toNatClampNeg)]) (rest := []) (cb := [bX4 cI cZ a q w_O, bX3 cI (q 0) qN w_N, bX0 cI (q 12) qD w_D, bX1 (qD 13) w_DW, bX1 (qD 14) w_DP]) (cb1 := [bX4 cI cZ a q w_O, bX3 cI (q 0) qN w_N, bX0 cI (q 12) qD x95.2.1, bX1 (qD 13) x95.2.2.1, bX1 (qD 14) x95.2.2.2]) (bs1 := [bX4 cI cZ a q w_O, bX3 cI (q 0) qN w_N, bX3 cI (q 1) qT w_T, bX2 cI (q 2) qC w_C, bX0 cI (q 12) qD x95.2.1, bX1 (qD 13) x95.2.2.1, bX1 (qD 14) x95.2.2.2, bPA cI cS (q 3) w_PA, bIM cI cS (q 5) w_IM, bX5 cI cZ am qM w_M]) ⟨hx, hb, hml, hown, hts⟩ hK (c_X4_sharing l D cI cZ cS a q qN qD (xs ((v3 + 1) : Int32).toNatClampNeg) w_O w_N w_D w_DW w_DP x95 ex95) gv_RL_72 rfl hs_X4_sharing rfl ⟨Nat.le_of_ble_eq_true rfl, Nat.le_of_ble_eq_true rfl⟩ (ci := 4) rfl rfl rfl hl.1 rfl (Nat.le_of_ble_eq_true rfl) dL_law_544 ⟨Nat.le_of_ble_eq_true rfl, Nat.le_of_ble_eq_true rfl⟩ hP hD hS hA [0, 1, 4, 5, 6] [2, 3, 7, 8, 9] [0, 1, 5, 6, 2, 3, 4, 7, 8, 9] (nb := 10) (nb1 := 10) rfl (by decide) rfl rfl rfl (by decide) rfl (fun H locs hP hD hS => ?_)
          refine lv_aload_n (pc := 547) hx hb dL_law_547 rfl (lv_at hl 2 rfl) ?_
          refine lv_aload_n (pc := 548) hx hb dL_law_548 rfl (lv_at hl 0 rfl) ?_
          refine lv_iload_n (pc := 549) hx hb dL_law_549 rfl (lv_at hl 3 rfl) ?_
          refine lv_iconst (v := 1) (pc := 550) hx hb dL_law_550 (by decide) ?_
          refine lv_iadd (pc := 551) hx hb dL_law_551 ?_
          obtain ⟨h96, hf⟩ := ck_some hf
          refine va_sld (pc := 552) hx hb hX hbl hbA hS h96 dL_law_552 ?_
          obtain ⟨x97, ex97, hf⟩ := bd_some hf
          refine ct_VB (pc := 553) (As := [.int (xs ((v3 + 1) : Int32).toNatClampNeg)]) (rest := [.int x95.1]) (cb := [bX5 cI cZ am qM w_M]) (cb1 := [bX5 cI cZ am qM x97.2]) (bs1 := [bX4 cI cZ a q w_O, bX3 cI (q 0) qN w_N, bX3 cI (q 1) qT w_T, bX2 cI (q 2) qC w_C, bX0 cI (q 12) qD x95.2.1, bX1 (qD 13) x95.2.2.1, bX1 (qD 14) x95.2.2.2, bPA cI cS (q 3) w_PA, bIM cI cS (q 5) w_IM, bX5 cI cZ am qM x97.2]) ⟨hx, hb, hml, hown, hts⟩ hK (c_X5_sharing l D cI cZ cS am qM (xs ((v3 + 1) : Int32).toNatClampNeg) w_M x97 ex97) gv_RL_75 rfl hs_X5_sharing rfl ⟨Nat.le_of_ble_eq_true rfl, Nat.le_of_ble_eq_true rfl⟩ (ci := 5) rfl rfl rfl hl.1 rfl (Nat.le_of_ble_eq_true rfl) dL_law_553 ⟨Nat.le_of_ble_eq_true rfl, Nat.le_of_ble_eq_true rfl⟩ hP hD hS hA [9] [0, 1, 2, 3, 4, 5, 6, 7, 8] [1, 2, 3, 4, 5, 6, 7, 8, 9, 0] (nb := 10) (nb1 := 10) rfl (by decide) rfl rfl rfl (by decide) rfl (fun H locs hP hD hS => ?_)
          refine lv_icmp_eq (pc := 556) (tgt := 1030) hx hb dL_law_556 (by decide) (fun c98 => ?_) (fun c98 => ?_)
          · replace hf := ip c98 hf
            refine lv_iinc (v := (v3 + 5)) (lv' := [(3, .int (v3 + 5)), (0, .ref b), (1, .ref a), (2, .ref am)]) (pc := 1030) hx hb dL_law_1030 hl (k := 3) rfl rfl (by decide) rfl (fun ls hl => ?_)
            refine lv_goto (pc := 1033) (tgt := 18) hx hb dL_law_1033 (by decide) ?_
            exact ih _ _ _ _ _ _ _ _ _ _ _ H locs ls hf hP hD hS (lv_sub hl [1, 2, 3, 0] rfl)
          · replace hf := im c98 hf
            refine lv_iconst (v := 0) (pc := 559) hx hb dL_law_559 (by decide) ?_
            exact absurd (Option.some.inj hf) (by decide)
        replace hf := im c93 hf
        by_cases c99 : ((xs (v3 : Int32).toNatClampNeg) &&& 31) = 14
        · refine lv_tableIn (pc := 32) (off := 529) (tgt := 561) hx hb dL_law_32 (by rw [c99]; decide) (by rw [c99]; decide) (by rw [c99]; decide) (by decide) ?_
          replace hf := ip c99 hf
          refine lv_aload_n (pc := 561) hx hb dL_law_561 rfl (lv_at hl 1 rfl) ?_
          refine lv_aload_n (pc := 562) hx hb dL_law_562 rfl (lv_at hl 0 rfl) ?_
          refine lv_iload_n (pc := 563) hx hb dL_law_563 rfl (lv_at hl 3 rfl) ?_
          refine lv_iconst (v := 1) (pc := 564) hx hb dL_law_564 (by decide) ?_
          refine lv_iadd (pc := 565) hx hb dL_law_565 ?_
          obtain ⟨h100, hf⟩ := ck_some hf
          refine va_sld (pc := 566) hx hb hX hbl hbA hS h100 dL_law_566 ?_
          refine lv_aload_n (pc := 567) hx hb dL_law_567 rfl (lv_at hl 0 rfl) ?_
          refine lv_iload_n (pc := 568) hx hb dL_law_568 rfl (lv_at hl 3 rfl) ?_
          refine lv_iconst (v := 2) (pc := 569) hx hb dL_law_569 (by decide) ?_
          refine lv_iadd (pc := 570) hx hb dL_law_570 ?_
          obtain ⟨h101, hf⟩ := ck_some hf
          refine va_sld (pc := 571) hx hb hX hbl hbA hS h101 dL_law_571 ?_
          obtain ⟨x102, ex102, hf⟩ := bd_some hf
          refine ct_VB (pc := 572) (As := [.int (xs ((v3 + 1) : Int32).toNatClampNeg), .int (xs ((v3 + 2) : Int32).toNatClampNeg)]) (rest := []) (cb := [bX4 cI cZ a q w_O, bX3 cI (q 0) qN w_N, bX0 cI (q 12) qD w_D, bX1 (qD 13) w_DW, bX1 (qD 14) w_DP]) (cb1 := [bX4 cI cZ a q w_O, bX3 cI (q 0) qN w_N, bX0 cI (q 12) qD x102.2.1, bX1 (qD 13) x102.2.2.1, bX1 (qD 14) x102.2.2.2]) (bs1 := [bX4 cI cZ a q w_O, bX3 cI (q 0) qN w_N, bX3 cI (q 1) qT w_T, bX2 cI (q 2) qC w_C, bX0 cI (q 12) qD x102.2.1, bX1 (qD 13) x102.2.2.1, bX1 (qD 14) x102.2.2.2, bPA cI cS (q 3) w_PA, bIM cI cS (q 5) w_IM, bX5 cI cZ am qM w_M]) ⟨hx, hb, hml, hown, hts⟩ hK (c_X4_share l D cI cZ cS a q qN qD (xs ((v3 + 1) : Int32).toNatClampNeg) (xs ((v3 + 2) : Int32).toNatClampNeg) w_O w_N w_D w_DW w_DP x102 ex102) gv_RL_76 rfl hs_X4_share rfl ⟨Nat.le_of_ble_eq_true rfl, Nat.le_of_ble_eq_true rfl⟩ (ci := 4) rfl rfl rfl hl.1 rfl (Nat.le_of_ble_eq_true rfl) dL_law_572 ⟨Nat.le_of_ble_eq_true rfl, Nat.le_of_ble_eq_true rfl⟩ hP hD hS hA [0, 1, 4, 5, 6] [2, 3, 7, 8, 9] [0, 1, 5, 6, 2, 3, 4, 7, 8, 9] (nb := 10) (nb1 := 10) rfl (by decide) rfl rfl rfl (by decide) rfl (fun H locs hP hD hS => ?_)
          refine lv_aload_n (pc := 575) hx hb dL_law_575 rfl (lv_at hl 2 rfl) ?_
          refine lv_aload_n (pc := 576) hx hb dL_law_576 rfl (lv_at hl 0 rfl) ?_
          refine lv_iload_n (pc := 577) hx hb dL_law_577 rfl (lv_at hl 3 rfl) ?_
          refine lv_iconst (v := 1) (pc := 578) hx hb dL_law_578 (by decide) ?_
          refine lv_iadd (pc := 579) hx hb dL_law_579 ?_
          obtain ⟨h103, hf⟩ := ck_some hf
          refine va_sld (pc := 580) hx hb hX hbl hbA hS h103 dL_law_580 ?_
          refine lv_aload_n (pc := 581) hx hb dL_law_581 rfl (lv_at hl 0 rfl) ?_
          refine lv_iload_n (pc := 582) hx hb dL_law_582 rfl (lv_at hl 3 rfl) ?_
          refine lv_iconst (v := 2) (pc := 583) hx hb dL_law_583 (by decide) ?_
          refine lv_iadd (pc := 584) hx hb dL_law_584 ?_
          obtain ⟨h104, hf⟩ := ck_some hf
          refine va_sld (pc := 585) hx hb hX hbl hbA hS h104 dL_law_585 ?_
          obtain ⟨x105, ex105, hf⟩ := bd_some hf
          refine ct_VB (pc := 586) (As := [.int (xs ((v3 + 1) : Int32).toNatClampNeg), .int (xs ((v3 + 2) : Int32).toNatClampNeg)]) (rest := [.long x102.1]) (cb := [bX5 cI cZ am qM w_M]) (cb1 := [bX5 cI cZ am qM x105.2]) (bs1 := [bX4 cI cZ a q w_O, bX3 cI (q 0) qN w_N, bX3 cI (q 1) qT w_T, bX2 cI (q 2) qC w_C, bX0 cI (q 12) qD x102.2.1, bX1 (qD 13) x102.2.2.1, bX1 (qD 14) x102.2.2.2, bPA cI cS (q 3) w_PA, bIM cI cS (q 5) w_IM, bX5 cI cZ am qM x105.2]) ⟨hx, hb, hml, hown, hts⟩ hK (c_X5_share l D cI cZ cS am qM (xs ((v3 + 1) : Int32).toNatClampNeg) (xs ((v3 + 2) : Int32).toNatClampNeg) w_M x105 ex105) gv_RL_79 rfl hs_X5_share rfl ⟨Nat.le_of_ble_eq_true rfl, Nat.le_of_ble_eq_true rfl⟩ (ci := 5) rfl rfl rfl hl.1 rfl (Nat.le_of_ble_eq_true rfl) dL_law_586 ⟨Nat.le_of_ble_eq_true rfl, Nat.le_of_ble_eq_true rfl⟩ hP hD hS hA [9] [0, 1, 2, 3, 4, 5, 6, 7, 8] [1, 2, 3, 4, 5, 6, 7, 8, 9, 0] (nb := 10) (nb1 := 10) rfl (by decide) rfl rfl rfl (by decide) rfl (fun H locs hP hD hS => ?_)
          refine W.lcmp (pc := 589) hx hb dL_law_589 ?_
          refine lv_if_eq (pc := 590) (tgt := 1030) hx hb dL_law_590 (by decide) (fun c106 => ?_) (fun c106 => ?_)
          · replace c106 := (lg_cmp_eq _ _).mp c106
            replace hf := ip c106 hf
            refine lv_iinc (v := (v3 + 5)) (lv' := [(3, .int (v3 + 5)), (0, .ref b), (1, .ref a), (2, .ref am)]) (pc := 1030) hx hb dL_law_1030 hl (k := 3) rfl rfl (by decide) rfl (fun ls hl => ?_)
            refine lv_goto (pc := 1033) (tgt := 18) hx hb dL_law_1033 (by decide) ?_
            exact ih _ _ _ _ _ _ _ _ _ _ _ H locs ls hf hP hD hS (lv_sub hl [1, 2, 3, 0] rfl)
          · replace c106 := fun q => c106 ((lg_cmp_eq _ _).mpr q)
            replace hf := im c106 hf
            refine lv_iconst (v := 0) (pc := 593) hx hb dL_law_593 (by decide) ?_
            exact absurd (Option.some.inj hf) (by decide)
        replace hf := im c99 hf
        by_cases c107 : ((xs (v3 : Int32).toNatClampNeg) &&& 31) = 15
        · refine lv_tableIn (pc := 32) (off := 563) (tgt := 595) hx hb dL_law_32 (by rw [c107]; decide) (by rw [c107]; decide) (by rw [c107]; decide) (by decide) ?_
          replace hf := ip c107 hf
          refine lv_aload_n (pc := 595) hx hb dL_law_595 rfl (lv_at hl 1 rfl) ?_
          refine lv_aload_n (pc := 596) hx hb dL_law_596 rfl (lv_at hl 0 rfl) ?_
          refine lv_iload_n (pc := 597) hx hb dL_law_597 rfl (lv_at hl 3 rfl) ?_
          refine lv_iconst (v := 1) (pc := 598) hx hb dL_law_598 (by decide) ?_
          refine lv_iadd (pc := 599) hx hb dL_law_599 ?_
          obtain ⟨h108, hf⟩ := ck_some hf
          refine va_sld (pc := 600) hx hb hX hbl hbA hS h108 dL_law_600 ?_
          refine lv_aload_n (pc := 601) hx hb dL_law_601 rfl (lv_at hl 0 rfl) ?_
          refine lv_iload_n (pc := 602) hx hb dL_law_602 rfl (lv_at hl 3 rfl) ?_
          refine lv_iconst (v := 2) (pc := 603) hx hb dL_law_603 (by decide) ?_
          refine lv_iadd (pc := 604) hx hb dL_law_604 ?_
          obtain ⟨h109, hf⟩ := ck_some hf
          refine va_sld (pc := 605) hx hb hX hbl hbA hS h109 dL_law_605 ?_
          refine lv_aload_n (pc := 606) hx hb dL_law_606 rfl (lv_at hl 0 rfl) ?_
          refine lv_iload_n (pc := 607) hx hb dL_law_607 rfl (lv_at hl 3 rfl) ?_
          refine lv_iconst (v := 3) (pc := 608) hx hb dL_law_608 (by decide) ?_
          refine lv_iadd (pc := 609) hx hb dL_law_609 ?_
          obtain ⟨h110, hf⟩ := ck_some hf
          refine va_sld (pc := 610) hx hb hX hbl hbA hS h110 dL_law_610 ?_
          obtain ⟨x111, ex111, hf⟩ := bd_some hf
          refine ct_VB (pc := 611) (As := [.int (xs ((v3 + 1) : Int32).toNatClampNeg), .int (xs ((v3 + 2) : Int32).toNatClampNeg), .int (xs ((v3 + 3) : Int32).toNatClampNeg)]) (rest := []) (cb := [bX4 cI cZ a q w_O, bX3 cI (q 0) qN w_N, bX0 cI (q 12) qD w_D, bX1 (qD 13) w_DW, bX1 (qD 14) w_DP]) (cb1 := [bX4 cI cZ a q w_O, bX3 cI (q 0) qN w_N, bX0 cI (q 12) qD x111.2.1, bX1 (qD 13) x111.2.2.1, bX1 (qD 14) x111.2.2.2]) (bs1 := [bX4 cI cZ a q w_O, bX3 cI (q 0) qN w_N, bX3 cI (q 1) qT w_T, bX2 cI (q 2) qC w_C, bX0 cI (q 12) qD x111.2.1, bX1 (qD 13) x111.2.2.1, bX1 (qD 14) x111.2.2.2, bPA cI cS (q 3) w_PA, bIM cI cS (q 5) w_IM, bX5 cI cZ am qM w_M]) ⟨hx, hb, hml, hown, hts⟩ hK (c_X4_press l D cI cZ cS a q qN qD (xs ((v3 + 1) : Int32).toNatClampNeg) (xs ((v3 + 2) : Int32).toNatClampNeg) (xs ((v3 + 3) : Int32).toNatClampNeg) w_O w_N w_D w_DW w_DP x111 ex111) gv_RL_80 rfl hs_X4_press rfl ⟨Nat.le_of_ble_eq_true rfl, Nat.le_of_ble_eq_true rfl⟩ (ci := 4) rfl rfl rfl hl.1 rfl (Nat.le_of_ble_eq_true rfl) dL_law_611 ⟨Nat.le_of_ble_eq_true rfl, Nat.le_of_ble_eq_true rfl⟩ hP hD hS hA [0, 1, 4, 5, 6] [2, 3, 7, 8, 9] [0, 1, 5, 6, 2, 3, 4, 7, 8, 9] (nb := 10) (nb1 := 10) rfl (by decide) rfl rfl rfl (by decide) rfl (fun H locs hP hD hS => ?_)
          refine lv_aload_n (pc := 614) hx hb dL_law_614 rfl (lv_at hl 2 rfl) ?_
          refine lv_aload_n (pc := 615) hx hb dL_law_615 rfl (lv_at hl 0 rfl) ?_
          refine lv_iload_n (pc := 616) hx hb dL_law_616 rfl (lv_at hl 3 rfl) ?_
          refine lv_iconst (v := 1) (pc := 617) hx hb dL_law_617 (by decide) ?_
          refine lv_iadd (pc := 618) hx hb dL_law_618 ?_
          obtain ⟨h112, hf⟩ := ck_some hf
          refine va_sld (pc := 619) hx hb hX hbl hbA hS h112 dL_law_619 ?_
          refine lv_aload_n (pc := 620) hx hb dL_law_620 rfl (lv_at hl 0 rfl) ?_
          refine lv_iload_n (pc := 621) hx hb dL_law_621 rfl (lv_at hl 3 rfl) ?_
          refine lv_iconst (v := 2) (pc := 622) hx hb dL_law_622 (by decide) ?_
          refine lv_iadd (pc := 623) hx hb dL_law_623 ?_
          obtain ⟨h113, hf⟩ := ck_some hf
          refine va_sld (pc := 624) hx hb hX hbl hbA hS h113 dL_law_624 ?_
          refine lv_aload_n (pc := 625) hx hb dL_law_625 rfl (lv_at hl 0 rfl) ?_
          refine lv_iload_n (pc := 626) hx hb dL_law_626 rfl (lv_at hl 3 rfl) ?_
          refine lv_iconst (v := 3) (pc := 627) hx hb dL_law_627 (by decide) ?_
          refine lv_iadd (pc := 628) hx hb dL_law_628 ?_
          obtain ⟨h114, hf⟩ := ck_some hf
          refine va_sld (pc := 629) hx hb hX hbl hbA hS h114 dL_law_629 ?_
          obtain ⟨x115, ex115, hf⟩ := bd_some hf
          refine ct_VB (pc := 630) (As := [.int (xs ((v3 + 1) : Int32).toNatClampNeg), .int (xs ((v3 + 2) : Int32).toNatClampNeg), .int (xs ((v3 + 3) : Int32).toNatClampNeg)]) (rest := [.long x111.1]) (cb := [bX5 cI cZ am qM w_M]) (cb1 := [bX5 cI cZ am qM x115.2]) (bs1 := [bX4 cI cZ a q w_O, bX3 cI (q 0) qN w_N, bX3 cI (q 1) qT w_T, bX2 cI (q 2) qC w_C, bX0 cI (q 12) qD x111.2.1, bX1 (qD 13) x111.2.2.1, bX1 (qD 14) x111.2.2.2, bPA cI cS (q 3) w_PA, bIM cI cS (q 5) w_IM, bX5 cI cZ am qM x115.2]) ⟨hx, hb, hml, hown, hts⟩ hK (c_X5_press l D cI cZ cS am qM (xs ((v3 + 1) : Int32).toNatClampNeg) (xs ((v3 + 2) : Int32).toNatClampNeg) (xs ((v3 + 3) : Int32).toNatClampNeg) w_M x115 ex115) gv_RL_84 rfl hs_X5_press rfl ⟨Nat.le_of_ble_eq_true rfl, Nat.le_of_ble_eq_true rfl⟩ (ci := 5) rfl rfl rfl hl.1 rfl (Nat.le_of_ble_eq_true rfl) dL_law_630 ⟨Nat.le_of_ble_eq_true rfl, Nat.le_of_ble_eq_true rfl⟩ hP hD hS hA [9] [0, 1, 2, 3, 4, 5, 6, 7, 8] [1, 2, 3, 4, 5, 6, 7, 8, 9, 0] (nb := 10) (nb1 := 10) rfl (by decide) rfl rfl rfl (by decide) rfl (fun H locs hP hD hS => ?_)
          refine W.lcmp (pc := 633) hx hb dL_law_633 ?_
          refine lv_if_eq (pc := 634) (tgt := 1030) hx hb dL_law_634 (by decide) (fun c116 => ?_) (fun c116 => ?_)
          · replace c116 := (lg_cmp_eq _ _).mp c116
            replace hf := ip c116 hf
            refine lv_iinc (v := (v3 + 5)) (lv' := [(3, .int (v3 + 5)), (0, .ref b), (1, .ref a), (2, .ref am)]) (pc := 1030) hx hb dL_law_1030 hl (k := 3) rfl rfl (by decide) rfl (fun ls hl => ?_)
            refine lv_goto (pc := 1033) (tgt := 18) hx hb dL_law_1033 (by decide) ?_
            exact ih _ _ _ _ _ _ _ _ _ _ _ H locs ls hf hP hD hS (lv_sub hl [1, 2, 3, 0] rfl)
          · replace c116 := fun q => c116 ((lg_cmp_eq _ _).mpr q)
            replace hf := im c116 hf
            refine lv_iconst (v := 0) (pc := 637) hx hb dL_law_637 (by decide) ?_
            exact absurd (Option.some.inj hf) (by decide)
        replace hf := im c107 hf
        by_cases c117 : ((xs (v3 : Int32).toNatClampNeg) &&& 31) = 16
        · refine lv_tableIn (pc := 32) (off := 607) (tgt := 639) hx hb dL_law_32 (by rw [c117]; decide) (by rw [c117]; decide) (by rw [c117]; decide) (by decide) ?_
          replace hf := ip c117 hf
          refine lv_aload_n (pc := 639) hx hb dL_law_639 rfl (lv_at hl 1 rfl) ?_
          refine lv_aload_n (pc := 640) hx hb dL_law_640 rfl (lv_at hl 0 rfl) ?_
          refine lv_iload_n (pc := 641) hx hb dL_law_641 rfl (lv_at hl 3 rfl) ?_
          refine lv_iconst (v := 1) (pc := 642) hx hb dL_law_642 (by decide) ?_
          refine lv_iadd (pc := 643) hx hb dL_law_643 ?_
          obtain ⟨h118, hf⟩ := ck_some hf
          refine va_sld (pc := 644) hx hb hX hbl hbA hS h118 dL_law_644 ?_
          obtain ⟨x119, ex119, hf⟩ := bd_some hf
          refine ct_VB (pc := 645) (As := [.int (xs ((v3 + 1) : Int32).toNatClampNeg)]) (rest := []) (cb := [bX4 cI cZ a q w_O, bX3 cI (q 0) qN w_N, bX0 cI (q 12) qD w_D, bX1 (qD 13) w_DW, bX1 (qD 14) w_DP]) (cb1 := [bX4 cI cZ a q w_O, bX3 cI (q 0) qN w_N, bX0 cI (q 12) qD x119.2.1, bX1 (qD 13) x119.2.2.1, bX1 (qD 14) x119.2.2.2]) (bs1 := [bX4 cI cZ a q w_O, bX3 cI (q 0) qN w_N, bX3 cI (q 1) qT w_T, bX2 cI (q 2) qC w_C, bX0 cI (q 12) qD x119.2.1, bX1 (qD 13) x119.2.2.1, bX1 (qD 14) x119.2.2.2, bPA cI cS (q 3) w_PA, bIM cI cS (q 5) w_IM, bX5 cI cZ am qM w_M]) ⟨hx, hb, hml, hown, hts⟩ hK (c_X4_most l D cI cZ cS a q qN qD (xs ((v3 + 1) : Int32).toNatClampNeg) w_O w_N w_D w_DW w_DP x119 ex119) gv_RL_85 rfl hs_X4_most rfl ⟨Nat.le_of_ble_eq_true rfl, Nat.le_of_ble_eq_true rfl⟩ (ci := 4) rfl rfl rfl hl.1 rfl (Nat.le_of_ble_eq_true rfl) dL_law_645 ⟨Nat.le_of_ble_eq_true rfl, Nat.le_of_ble_eq_true rfl⟩ hP hD hS hA [0, 1, 4, 5, 6] [2, 3, 7, 8, 9] [0, 1, 5, 6, 2, 3, 4, 7, 8, 9] (nb := 10) (nb1 := 10) rfl (by decide) rfl rfl rfl (by decide) rfl (fun H locs hP hD hS => ?_)
          refine lv_aload_n (pc := 648) hx hb dL_law_648 rfl (lv_at hl 2 rfl) ?_
          refine lv_aload_n (pc := 649) hx hb dL_law_649 rfl (lv_at hl 0 rfl) ?_
          refine lv_iload_n (pc := 650) hx hb dL_law_650 rfl (lv_at hl 3 rfl) ?_
          refine lv_iconst (v := 1) (pc := 651) hx hb dL_law_651 (by decide) ?_
          refine lv_iadd (pc := 652) hx hb dL_law_652 ?_
          obtain ⟨h120, hf⟩ := ck_some hf
          refine va_sld (pc := 653) hx hb hX hbl hbA hS h120 dL_law_653 ?_
          obtain ⟨x121, ex121, hf⟩ := bd_some hf
          refine ct_VB (pc := 654) (As := [.int (xs ((v3 + 1) : Int32).toNatClampNeg)]) (rest := [.long x119.1]) (cb := [bX5 cI cZ am qM w_M]) (cb1 := [bX5 cI cZ am qM x121.2]) (bs1 := [bX4 cI cZ a q w_O, bX3 cI (q 0) qN w_N, bX3 cI (q 1) qT w_T, bX2 cI (q 2) qC w_C, bX0 cI (q 12) qD x119.2.1, bX1 (qD 13) x119.2.2.1, bX1 (qD 14) x119.2.2.2, bPA cI cS (q 3) w_PA, bIM cI cS (q 5) w_IM, bX5 cI cZ am qM x121.2]) ⟨hx, hb, hml, hown, hts⟩ hK (c_X5_most l D cI cZ cS am qM (xs ((v3 + 1) : Int32).toNatClampNeg) w_M x121 ex121) gv_RL_88 rfl hs_X5_most rfl ⟨Nat.le_of_ble_eq_true rfl, Nat.le_of_ble_eq_true rfl⟩ (ci := 5) rfl rfl rfl hl.1 rfl (Nat.le_of_ble_eq_true rfl) dL_law_654 ⟨Nat.le_of_ble_eq_true rfl, Nat.le_of_ble_eq_true rfl⟩ hP hD hS hA [9] [0, 1, 2, 3, 4, 5, 6, 7, 8] [1, 2, 3, 4, 5, 6, 7, 8, 9, 0] (nb := 10) (nb1 := 10) rfl (by decide) rfl rfl rfl (by decide) rfl (fun H locs hP hD hS => ?_)
          refine W.lcmp (pc := 657) hx hb dL_law_657 ?_
          refine lv_if_eq (pc := 658) (tgt := 1030) hx hb dL_law_658 (by decide) (fun c122 => ?_) (fun c122 => ?_)
          · replace c122 := (lg_cmp_eq _ _).mp c122
            replace hf := ip c122 hf
            refine lv_iinc (v := (v3 + 5)) (lv' := [(3, .int (v3 + 5)), (0, .ref b), (1, .ref a), (2, .ref am)]) (pc := 1030) hx hb dL_law_1030 hl (k := 3) rfl rfl (by decide) rfl (fun ls hl => ?_)
            refine lv_goto (pc := 1033) (tgt := 18) hx hb dL_law_1033 (by decide) ?_
            exact ih _ _ _ _ _ _ _ _ _ _ _ H locs ls hf hP hD hS (lv_sub hl [1, 2, 3, 0] rfl)
          · replace c122 := fun q => c122 ((lg_cmp_eq _ _).mpr q)
            replace hf := im c122 hf
            refine lv_iconst (v := 0) (pc := 661) hx hb dL_law_661 (by decide) ?_
            exact absurd (Option.some.inj hf) (by decide)
        replace hf := im c117 hf
        by_cases c123 : ((xs (v3 : Int32).toNatClampNeg) &&& 31) = 17
        · refine lv_tableIn (pc := 32) (off := 631) (tgt := 663) hx hb dL_law_32 (by rw [c123]; decide) (by rw [c123]; decide) (by rw [c123]; decide) (by decide) ?_
          replace hf := ip c123 hf
          refine lv_aload_n (pc := 663) hx hb dL_law_663 rfl (lv_at hl 1 rfl) ?_
          refine lv_aload_n (pc := 664) hx hb dL_law_664 rfl (lv_at hl 0 rfl) ?_
          refine lv_iload_n (pc := 665) hx hb dL_law_665 rfl (lv_at hl 3 rfl) ?_
          refine lv_iconst (v := 1) (pc := 666) hx hb dL_law_666 (by decide) ?_
          refine lv_iadd (pc := 667) hx hb dL_law_667 ?_
          obtain ⟨h124, hf⟩ := ck_some hf
          refine va_sld (pc := 668) hx hb hX hbl hbA hS h124 dL_law_668 ?_
          obtain ⟨x125, ex125, hf⟩ := bd_some hf
          refine ct_VB (pc := 669) (As := [.int (xs ((v3 + 1) : Int32).toNatClampNeg)]) (rest := []) (cb := [bX4 cI cZ a q w_O, bX3 cI (q 0) qN w_N, bX0 cI (q 12) qD w_D, bX1 (qD 13) w_DW, bX1 (qD 14) w_DP]) (cb1 := [bX4 cI cZ a q w_O, bX3 cI (q 0) qN w_N, bX0 cI (q 12) qD x125.2.1, bX1 (qD 13) x125.2.2.1, bX1 (qD 14) x125.2.2.2]) (bs1 := [bX4 cI cZ a q w_O, bX3 cI (q 0) qN w_N, bX3 cI (q 1) qT w_T, bX2 cI (q 2) qC w_C, bX0 cI (q 12) qD x125.2.1, bX1 (qD 13) x125.2.2.1, bX1 (qD 14) x125.2.2.2, bPA cI cS (q 3) w_PA, bIM cI cS (q 5) w_IM, bX5 cI cZ am qM w_M]) ⟨hx, hb, hml, hown, hts⟩ hK (c_X4_factor l D cI cZ cS a q qN qD (xs ((v3 + 1) : Int32).toNatClampNeg) w_O w_N w_D w_DW w_DP x125 ex125) gv_RL_89 rfl hs_X4_factor rfl ⟨Nat.le_of_ble_eq_true rfl, Nat.le_of_ble_eq_true rfl⟩ (ci := 4) rfl rfl rfl hl.1 rfl (Nat.le_of_ble_eq_true rfl) dL_law_669 ⟨Nat.le_of_ble_eq_true rfl, Nat.le_of_ble_eq_true rfl⟩ hP hD hS hA [0, 1, 4, 5, 6] [2, 3, 7, 8, 9] [0, 1, 5, 6, 2, 3, 4, 7, 8, 9] (nb := 10) (nb1 := 10) rfl (by decide) rfl rfl rfl (by decide) rfl (fun H locs hP hD hS => ?_)
          refine lv_aload_n (pc := 672) hx hb dL_law_672 rfl (lv_at hl 2 rfl) ?_
          refine lv_aload_n (pc := 673) hx hb dL_law_673 rfl (lv_at hl 0 rfl) ?_
          refine lv_iload_n (pc := 674) hx hb dL_law_674 rfl (lv_at hl 3 rfl) ?_
          refine lv_iconst (v := 1) (pc := 675) hx hb dL_law_675 (by decide) ?_
          refine lv_iadd (pc := 676) hx hb dL_law_676 ?_
          obtain ⟨h126, hf⟩ := ck_some hf
          refine va_sld (pc := 677) hx hb hX hbl hbA hS h126 dL_law_677 ?_
          obtain ⟨x127, ex127, hf⟩ := bd_some hf
          refine ct_VB (pc := 678) (As := [.int (xs ((v3 + 1) : Int32).toNatClampNeg)]) (rest := [.long x125.1]) (cb := [bX5 cI cZ am qM w_M]) (cb1 := [bX5 cI cZ am qM x127.2]) (bs1 := [bX4 cI cZ a q w_O, bX3 cI (q 0) qN w_N, bX3 cI (q 1) qT w_T, bX2 cI (q 2) qC w_C, bX0 cI (q 12) qD x125.2.1, bX1 (qD 13) x125.2.2.1, bX1 (qD 14) x125.2.2.2, bPA cI cS (q 3) w_PA, bIM cI cS (q 5) w_IM, bX5 cI cZ am qM x127.2]) ⟨hx, hb, hml, hown, hts⟩ hK (c_X5_factor l D cI cZ cS am qM (xs ((v3 + 1) : Int32).toNatClampNeg) w_M x127 ex127) gv_RL_92 rfl hs_X5_factor rfl ⟨Nat.le_of_ble_eq_true rfl, Nat.le_of_ble_eq_true rfl⟩ (ci := 5) rfl rfl rfl hl.1 rfl (Nat.le_of_ble_eq_true rfl) dL_law_678 ⟨Nat.le_of_ble_eq_true rfl, Nat.le_of_ble_eq_true rfl⟩ hP hD hS hA [9] [0, 1, 2, 3, 4, 5, 6, 7, 8] [1, 2, 3, 4, 5, 6, 7, 8, 9, 0] (nb := 10) (nb1 := 10) rfl (by decide) rfl rfl rfl (by decide) rfl (fun H locs hP hD hS => ?_)
          refine W.lcmp (pc := 681) hx hb dL_law_681 ?_
          refine lv_if_eq (pc := 682) (tgt := 1030) hx hb dL_law_682 (by decide) (fun c128 => ?_) (fun c128 => ?_)
          · replace c128 := (lg_cmp_eq _ _).mp c128
            replace hf := ip c128 hf
            refine lv_iinc (v := (v3 + 5)) (lv' := [(3, .int (v3 + 5)), (0, .ref b), (1, .ref a), (2, .ref am)]) (pc := 1030) hx hb dL_law_1030 hl (k := 3) rfl rfl (by decide) rfl (fun ls hl => ?_)
            refine lv_goto (pc := 1033) (tgt := 18) hx hb dL_law_1033 (by decide) ?_
            exact ih _ _ _ _ _ _ _ _ _ _ _ H locs ls hf hP hD hS (lv_sub hl [1, 2, 3, 0] rfl)
          · replace c128 := fun q => c128 ((lg_cmp_eq _ _).mpr q)
            replace hf := im c128 hf
            refine lv_iconst (v := 0) (pc := 685) hx hb dL_law_685 (by decide) ?_
            exact absurd (Option.some.inj hf) (by decide)
        replace hf := im c123 hf
        by_cases c129 : ((xs (v3 : Int32).toNatClampNeg) &&& 31) = 18
        · refine lv_tableIn (pc := 32) (off := 655) (tgt := 687) hx hb dL_law_32 (by rw [c129]; decide) (by rw [c129]; decide) (by rw [c129]; decide) (by decide) ?_
          replace hf := ip c129 hf
          refine lv_aload_n (pc := 687) hx hb dL_law_687 rfl (lv_at hl 1 rfl) ?_
          refine lv_aload_n (pc := 688) hx hb dL_law_688 rfl (lv_at hl 0 rfl) ?_
          refine lv_iload_n (pc := 689) hx hb dL_law_689 rfl (lv_at hl 3 rfl) ?_
          refine lv_iconst (v := 1) (pc := 690) hx hb dL_law_690 (by decide) ?_
          refine lv_iadd (pc := 691) hx hb dL_law_691 ?_
          obtain ⟨h130, hf⟩ := ck_some hf
          refine va_sld (pc := 692) hx hb hX hbl hbA hS h130 dL_law_692 ?_
          refine lv_aload_n (pc := 693) hx hb dL_law_693 rfl (lv_at hl 0 rfl) ?_
          refine lv_iload_n (pc := 694) hx hb dL_law_694 rfl (lv_at hl 3 rfl) ?_
          refine lv_iconst (v := 2) (pc := 695) hx hb dL_law_695 (by decide) ?_
          refine lv_iadd (pc := 696) hx hb dL_law_696 ?_
          obtain ⟨h131, hf⟩ := ck_some hf
          refine va_sld (pc := 697) hx hb hX hbl hbA hS h131 dL_law_697 ?_
          obtain ⟨x132, ex132, hf⟩ := bd_some hf
          refine ct_VB (pc := 698) (As := [.int (xs ((v3 + 1) : Int32).toNatClampNeg), .int (xs ((v3 + 2) : Int32).toNatClampNeg)]) (rest := []) (cb := [bX4 cI cZ a q w_O, bX3 cI (q 0) qN w_N, bX0 cI (q 12) qD w_D, bX1 (qD 13) w_DW, bX1 (qD 14) w_DP]) (cb1 := [bX4 cI cZ a q w_O, bX3 cI (q 0) qN w_N, bX0 cI (q 12) qD x132.2.1, bX1 (qD 13) x132.2.2.1, bX1 (qD 14) x132.2.2.2]) (bs1 := [bX4 cI cZ a q w_O, bX3 cI (q 0) qN w_N, bX3 cI (q 1) qT w_T, bX2 cI (q 2) qC w_C, bX0 cI (q 12) qD x132.2.1, bX1 (qD 13) x132.2.2.1, bX1 (qD 14) x132.2.2.2, bPA cI cS (q 3) w_PA, bIM cI cS (q 5) w_IM, bX5 cI cZ am qM w_M]) ⟨hx, hb, hml, hown, hts⟩ hK (c_X4_kern l D cI cZ cS a q qN qD (xs ((v3 + 1) : Int32).toNatClampNeg) (xs ((v3 + 2) : Int32).toNatClampNeg) w_O w_N w_D w_DW w_DP x132 ex132) gv_RL_93 rfl hs_X4_kern rfl ⟨Nat.le_of_ble_eq_true rfl, Nat.le_of_ble_eq_true rfl⟩ (ci := 4) rfl rfl rfl hl.1 rfl (Nat.le_of_ble_eq_true rfl) dL_law_698 ⟨Nat.le_of_ble_eq_true rfl, Nat.le_of_ble_eq_true rfl⟩ hP hD hS hA [0, 1, 4, 5, 6] [2, 3, 7, 8, 9] [0, 1, 5, 6, 2, 3, 4, 7, 8, 9] (nb := 10) (nb1 := 10) rfl (by decide) rfl rfl rfl (by decide) rfl (fun H locs hP hD hS => ?_)
          refine lv_aload_n (pc := 701) hx hb dL_law_701 rfl (lv_at hl 2 rfl) ?_
          refine lv_aload_n (pc := 702) hx hb dL_law_702 rfl (lv_at hl 0 rfl) ?_
          refine lv_iload_n (pc := 703) hx hb dL_law_703 rfl (lv_at hl 3 rfl) ?_
          refine lv_iconst (v := 1) (pc := 704) hx hb dL_law_704 (by decide) ?_
          refine lv_iadd (pc := 705) hx hb dL_law_705 ?_
          obtain ⟨h133, hf⟩ := ck_some hf
          refine va_sld (pc := 706) hx hb hX hbl hbA hS h133 dL_law_706 ?_
          refine lv_aload_n (pc := 707) hx hb dL_law_707 rfl (lv_at hl 0 rfl) ?_
          refine lv_iload_n (pc := 708) hx hb dL_law_708 rfl (lv_at hl 3 rfl) ?_
          refine lv_iconst (v := 2) (pc := 709) hx hb dL_law_709 (by decide) ?_
          refine lv_iadd (pc := 710) hx hb dL_law_710 ?_
          obtain ⟨h134, hf⟩ := ck_some hf
          refine va_sld (pc := 711) hx hb hX hbl hbA hS h134 dL_law_711 ?_
          obtain ⟨x135, ex135, hf⟩ := bd_some hf
          refine ct_VB (pc := 712) (As := [.int (xs ((v3 + 1) : Int32).toNatClampNeg), .int (xs ((v3 + 2) : Int32).toNatClampNeg)]) (rest := [.int x132.1]) (cb := [bX5 cI cZ am qM w_M]) (cb1 := [bX5 cI cZ am qM x135.2]) (bs1 := [bX4 cI cZ a q w_O, bX3 cI (q 0) qN w_N, bX3 cI (q 1) qT w_T, bX2 cI (q 2) qC w_C, bX0 cI (q 12) qD x132.2.1, bX1 (qD 13) x132.2.2.1, bX1 (qD 14) x132.2.2.2, bPA cI cS (q 3) w_PA, bIM cI cS (q 5) w_IM, bX5 cI cZ am qM x135.2]) ⟨hx, hb, hml, hown, hts⟩ hK (c_X5_kern l D cI cZ cS am qM (xs ((v3 + 1) : Int32).toNatClampNeg) (xs ((v3 + 2) : Int32).toNatClampNeg) w_M x135 ex135) gv_RL_96 rfl hs_X5_kern rfl ⟨Nat.le_of_ble_eq_true rfl, Nat.le_of_ble_eq_true rfl⟩ (ci := 5) rfl rfl rfl hl.1 rfl (Nat.le_of_ble_eq_true rfl) dL_law_712 ⟨Nat.le_of_ble_eq_true rfl, Nat.le_of_ble_eq_true rfl⟩ hP hD hS hA [9] [0, 1, 2, 3, 4, 5, 6, 7, 8] [1, 2, 3, 4, 5, 6, 7, 8, 9, 0] (nb := 10) (nb1 := 10) rfl (by decide) rfl rfl rfl (by decide) rfl (fun H locs hP hD hS => ?_)
          refine lv_icmp_eq (pc := 715) (tgt := 1030) hx hb dL_law_715 (by decide) (fun c136 => ?_) (fun c136 => ?_)
          · replace hf := ip c136 hf
            refine lv_iinc (v := (v3 + 5)) (lv' := [(3, .int (v3 + 5)), (0, .ref b), (1, .ref a), (2, .ref am)]) (pc := 1030) hx hb dL_law_1030 hl (k := 3) rfl rfl (by decide) rfl (fun ls hl => ?_)
            refine lv_goto (pc := 1033) (tgt := 18) hx hb dL_law_1033 (by decide) ?_
            exact ih _ _ _ _ _ _ _ _ _ _ _ H locs ls hf hP hD hS (lv_sub hl [1, 2, 3, 0] rfl)
          · replace hf := im c136 hf
            refine lv_iconst (v := 0) (pc := 718) hx hb dL_law_718 (by decide) ?_
            exact absurd (Option.some.inj hf) (by decide)
        replace hf := im c129 hf
        by_cases c137 : ((xs (v3 : Int32).toNatClampNeg) &&& 31) = 19
        · refine lv_tableIn (pc := 32) (off := 688) (tgt := 720) hx hb dL_law_32 (by rw [c137]; decide) (by rw [c137]; decide) (by rw [c137]; decide) (by decide) ?_
          replace hf := ip c137 hf
          refine lv_aload_n (pc := 720) hx hb dL_law_720 rfl (lv_at hl 1 rfl) ?_
          refine lv_aload_n (pc := 721) hx hb dL_law_721 rfl (lv_at hl 0 rfl) ?_
          refine lv_iload_n (pc := 722) hx hb dL_law_722 rfl (lv_at hl 3 rfl) ?_
          refine lv_iconst (v := 1) (pc := 723) hx hb dL_law_723 (by decide) ?_
          refine lv_iadd (pc := 724) hx hb dL_law_724 ?_
          obtain ⟨h138, hf⟩ := ck_some hf
          refine va_sld (pc := 725) hx hb hX hbl hbA hS h138 dL_law_725 ?_
          obtain ⟨x139, ex139, hf⟩ := bd_some hf
          refine ct_VB (pc := 726) (As := [.int (xs ((v3 + 1) : Int32).toNatClampNeg)]) (rest := []) (cb := [bX4 cI cZ a q w_O, bX3 cI (q 0) qN w_N, bX0 cI (q 12) qD w_D, bX1 (qD 13) w_DW, bX1 (qD 14) w_DP]) (cb1 := [bX4 cI cZ a q w_O, bX3 cI (q 0) qN w_N, bX0 cI (q 12) qD x139.2.1, bX1 (qD 13) x139.2.2.1, bX1 (qD 14) x139.2.2.2]) (bs1 := [bX4 cI cZ a q w_O, bX3 cI (q 0) qN w_N, bX3 cI (q 1) qT w_T, bX2 cI (q 2) qC w_C, bX0 cI (q 12) qD x139.2.1, bX1 (qD 13) x139.2.2.1, bX1 (qD 14) x139.2.2.2, bPA cI cS (q 3) w_PA, bIM cI cS (q 5) w_IM, bX5 cI cZ am qM w_M]) ⟨hx, hb, hml, hown, hts⟩ hK (c_X4_kerns l D cI cZ cS a q qN qD (xs ((v3 + 1) : Int32).toNatClampNeg) w_O w_N w_D w_DW w_DP x139 ex139) gv_RL_97 rfl hs_X4_kerns rfl ⟨Nat.le_of_ble_eq_true rfl, Nat.le_of_ble_eq_true rfl⟩ (ci := 4) rfl rfl rfl hl.1 rfl (Nat.le_of_ble_eq_true rfl) dL_law_726 ⟨Nat.le_of_ble_eq_true rfl, Nat.le_of_ble_eq_true rfl⟩ hP hD hS hA [0, 1, 4, 5, 6] [2, 3, 7, 8, 9] [0, 1, 5, 6, 2, 3, 4, 7, 8, 9] (nb := 10) (nb1 := 10) rfl (by decide) rfl rfl rfl (by decide) rfl (fun H locs hP hD hS => ?_)
          refine lv_aload_n (pc := 729) hx hb dL_law_729 rfl (lv_at hl 2 rfl) ?_
          refine lv_aload_n (pc := 730) hx hb dL_law_730 rfl (lv_at hl 0 rfl) ?_
          refine lv_iload_n (pc := 731) hx hb dL_law_731 rfl (lv_at hl 3 rfl) ?_
          refine lv_iconst (v := 1) (pc := 732) hx hb dL_law_732 (by decide) ?_
          refine lv_iadd (pc := 733) hx hb dL_law_733 ?_
          obtain ⟨h140, hf⟩ := ck_some hf
          refine va_sld (pc := 734) hx hb hX hbl hbA hS h140 dL_law_734 ?_
          obtain ⟨x141, ex141, hf⟩ := bd_some hf
          refine ct_VB (pc := 735) (As := [.int (xs ((v3 + 1) : Int32).toNatClampNeg)]) (rest := [.int x139.1]) (cb := [bX5 cI cZ am qM w_M]) (cb1 := [bX5 cI cZ am qM x141.2]) (bs1 := [bX4 cI cZ a q w_O, bX3 cI (q 0) qN w_N, bX3 cI (q 1) qT w_T, bX2 cI (q 2) qC w_C, bX0 cI (q 12) qD x139.2.1, bX1 (qD 13) x139.2.2.1, bX1 (qD 14) x139.2.2.2, bPA cI cS (q 3) w_PA, bIM cI cS (q 5) w_IM, bX5 cI cZ am qM x141.2]) ⟨hx, hb, hml, hown, hts⟩ hK (c_X5_kerns l D cI cZ cS am qM (xs ((v3 + 1) : Int32).toNatClampNeg) w_M x141 ex141) gv_RL_100 rfl hs_X5_kerns rfl ⟨Nat.le_of_ble_eq_true rfl, Nat.le_of_ble_eq_true rfl⟩ (ci := 5) rfl rfl rfl hl.1 rfl (Nat.le_of_ble_eq_true rfl) dL_law_735 ⟨Nat.le_of_ble_eq_true rfl, Nat.le_of_ble_eq_true rfl⟩ hP hD hS hA [9] [0, 1, 2, 3, 4, 5, 6, 7, 8] [1, 2, 3, 4, 5, 6, 7, 8, 9, 0] (nb := 10) (nb1 := 10) rfl (by decide) rfl rfl rfl (by decide) rfl (fun H locs hP hD hS => ?_)
          refine lv_icmp_eq (pc := 738) (tgt := 1030) hx hb dL_law_738 (by decide) (fun c142 => ?_) (fun c142 => ?_)
          · replace hf := ip c142 hf
            refine lv_iinc (v := (v3 + 5)) (lv' := [(3, .int (v3 + 5)), (0, .ref b), (1, .ref a), (2, .ref am)]) (pc := 1030) hx hb dL_law_1030 hl (k := 3) rfl rfl (by decide) rfl (fun ls hl => ?_)
            refine lv_goto (pc := 1033) (tgt := 18) hx hb dL_law_1033 (by decide) ?_
            exact ih _ _ _ _ _ _ _ _ _ _ _ H locs ls hf hP hD hS (lv_sub hl [1, 2, 3, 0] rfl)
          · replace hf := im c142 hf
            refine lv_iconst (v := 0) (pc := 741) hx hb dL_law_741 (by decide) ?_
            exact absurd (Option.some.inj hf) (by decide)
        replace hf := im c137 hf
        by_cases c143 : ((xs (v3 : Int32).toNatClampNeg) &&& 31) = 20
        · refine lv_tableIn (pc := 32) (off := 711) (tgt := 743) hx hb dL_law_32 (by rw [c143]; decide) (by rw [c143]; decide) (by rw [c143]; decide) (by decide) ?_
          replace hf := ip c143 hf
          refine lv_aload_n (pc := 743) hx hb dL_law_743 rfl (lv_at hl 1 rfl) ?_
          refine lv_aload_n (pc := 744) hx hb dL_law_744 rfl (lv_at hl 0 rfl) ?_
          refine lv_iload_n (pc := 745) hx hb dL_law_745 rfl (lv_at hl 3 rfl) ?_
          refine lv_iconst (v := 1) (pc := 746) hx hb dL_law_746 (by decide) ?_
          refine lv_iadd (pc := 747) hx hb dL_law_747 ?_
          obtain ⟨h144, hf⟩ := ck_some hf
          refine va_sld (pc := 748) hx hb hX hbl hbA hS h144 dL_law_748 ?_
          refine lv_aload_n (pc := 749) hx hb dL_law_749 rfl (lv_at hl 0 rfl) ?_
          refine lv_iload_n (pc := 750) hx hb dL_law_750 rfl (lv_at hl 3 rfl) ?_
          refine lv_iconst (v := 2) (pc := 751) hx hb dL_law_751 (by decide) ?_
          refine lv_iadd (pc := 752) hx hb dL_law_752 ?_
          obtain ⟨h145, hf⟩ := ck_some hf
          refine va_sld (pc := 753) hx hb hX hbl hbA hS h145 dL_law_753 ?_
          obtain ⟨x146, ex146, hf⟩ := bd_some hf
          refine ct_VB (pc := 754) (As := [.int (xs ((v3 + 1) : Int32).toNatClampNeg), .int (xs ((v3 + 2) : Int32).toNatClampNeg)]) (rest := []) (cb := [bX4 cI cZ a q w_O, bX3 cI (q 0) qN w_N, bX0 cI (q 12) qD w_D, bX1 (qD 13) w_DW, bX1 (qD 14) w_DP]) (cb1 := [bX4 cI cZ a q w_O, bX3 cI (q 0) qN w_N, bX0 cI (q 12) qD x146.2.1, bX1 (qD 13) x146.2.2.1, bX1 (qD 14) x146.2.2.2]) (bs1 := [bX4 cI cZ a q w_O, bX3 cI (q 0) qN w_N, bX3 cI (q 1) qT w_T, bX2 cI (q 2) qC w_C, bX0 cI (q 12) qD x146.2.1, bX1 (qD 13) x146.2.2.1, bX1 (qD 14) x146.2.2.2, bPA cI cS (q 3) w_PA, bIM cI cS (q 5) w_IM, bX5 cI cZ am qM w_M]) ⟨hx, hb, hml, hown, hts⟩ hK (c_X4_without l D cI cZ cS a q qN qD (xs ((v3 + 1) : Int32).toNatClampNeg) (xs ((v3 + 2) : Int32).toNatClampNeg) w_O w_N w_D w_DW w_DP x146 ex146) gv_RL_101 rfl hs_X4_without rfl ⟨Nat.le_of_ble_eq_true rfl, Nat.le_of_ble_eq_true rfl⟩ (ci := 4) rfl rfl rfl hl.1 rfl (Nat.le_of_ble_eq_true rfl) dL_law_754 ⟨Nat.le_of_ble_eq_true rfl, Nat.le_of_ble_eq_true rfl⟩ hP hD hS hA [0, 1, 4, 5, 6] [2, 3, 7, 8, 9] [0, 1, 5, 6, 2, 3, 4, 7, 8, 9] (nb := 10) (nb1 := 10) rfl (by decide) rfl rfl rfl (by decide) rfl (fun H locs hP hD hS => ?_)
          refine lv_aload_n (pc := 757) hx hb dL_law_757 rfl (lv_at hl 2 rfl) ?_
          refine lv_aload_n (pc := 758) hx hb dL_law_758 rfl (lv_at hl 0 rfl) ?_
          refine lv_iload_n (pc := 759) hx hb dL_law_759 rfl (lv_at hl 3 rfl) ?_
          refine lv_iconst (v := 1) (pc := 760) hx hb dL_law_760 (by decide) ?_
          refine lv_iadd (pc := 761) hx hb dL_law_761 ?_
          obtain ⟨h147, hf⟩ := ck_some hf
          refine va_sld (pc := 762) hx hb hX hbl hbA hS h147 dL_law_762 ?_
          refine lv_aload_n (pc := 763) hx hb dL_law_763 rfl (lv_at hl 0 rfl) ?_
          refine lv_iload_n (pc := 764) hx hb dL_law_764 rfl (lv_at hl 3 rfl) ?_
          refine lv_iconst (v := 2) (pc := 765) hx hb dL_law_765 (by decide) ?_
          refine lv_iadd (pc := 766) hx hb dL_law_766 ?_
          obtain ⟨h148, hf⟩ := ck_some hf
          refine va_sld (pc := 767) hx hb hX hbl hbA hS h148 dL_law_767 ?_
          obtain ⟨x149, ex149, hf⟩ := bd_some hf
          refine ct_VB (pc := 768) (As := [.int (xs ((v3 + 1) : Int32).toNatClampNeg), .int (xs ((v3 + 2) : Int32).toNatClampNeg)]) (rest := [.long x146.1]) (cb := [bX5 cI cZ am qM w_M]) (cb1 := [bX5 cI cZ am qM x149.2]) (bs1 := [bX4 cI cZ a q w_O, bX3 cI (q 0) qN w_N, bX3 cI (q 1) qT w_T, bX2 cI (q 2) qC w_C, bX0 cI (q 12) qD x146.2.1, bX1 (qD 13) x146.2.2.1, bX1 (qD 14) x146.2.2.2, bPA cI cS (q 3) w_PA, bIM cI cS (q 5) w_IM, bX5 cI cZ am qM x149.2]) ⟨hx, hb, hml, hown, hts⟩ hK (c_X5_without l D cI cZ cS am qM (xs ((v3 + 1) : Int32).toNatClampNeg) (xs ((v3 + 2) : Int32).toNatClampNeg) w_M x149 ex149) gv_RL_104 rfl hs_X5_without rfl ⟨Nat.le_of_ble_eq_true rfl, Nat.le_of_ble_eq_true rfl⟩ (ci := 5) rfl rfl rfl hl.1 rfl (Nat.le_of_ble_eq_true rfl) dL_law_768 ⟨Nat.le_of_ble_eq_true rfl, Nat.le_of_ble_eq_true rfl⟩ hP hD hS hA [9] [0, 1, 2, 3, 4, 5, 6, 7, 8] [1, 2, 3, 4, 5, 6, 7, 8, 9, 0] (nb := 10) (nb1 := 10) rfl (by decide) rfl rfl rfl (by decide) rfl (fun H locs hP hD hS => ?_)
          refine W.lcmp (pc := 771) hx hb dL_law_771 ?_
          refine lv_if_eq (pc := 772) (tgt := 1030) hx hb dL_law_772 (by decide) (fun c150 => ?_) (fun c150 => ?_)
          · replace c150 := (lg_cmp_eq _ _).mp c150
            replace hf := ip c150 hf
            refine lv_iinc (v := (v3 + 5)) (lv' := [(3, .int (v3 + 5)), (0, .ref b), (1, .ref a), (2, .ref am)]) (pc := 1030) hx hb dL_law_1030 hl (k := 3) rfl rfl (by decide) rfl (fun ls hl => ?_)
            refine lv_goto (pc := 1033) (tgt := 18) hx hb dL_law_1033 (by decide) ?_
            exact ih _ _ _ _ _ _ _ _ _ _ _ H locs ls hf hP hD hS (lv_sub hl [1, 2, 3, 0] rfl)
          · replace c150 := fun q => c150 ((lg_cmp_eq _ _).mpr q)
            replace hf := im c150 hf
            refine lv_iconst (v := 0) (pc := 775) hx hb dL_law_775 (by decide) ?_
            exact absurd (Option.some.inj hf) (by decide)
        replace hf := im c143 hf
        by_cases c151 : ((xs (v3 : Int32).toNatClampNeg) &&& 31) = 21
        · refine lv_tableIn (pc := 32) (off := 745) (tgt := 777) hx hb dL_law_32 (by rw [c151]; decide) (by rw [c151]; decide) (by rw [c151]; decide) (by decide) ?_
          replace hf := ip c151 hf
          refine lv_aload_n (pc := 777) hx hb dL_law_777 rfl (lv_at hl 1 rfl) ?_
          obtain ⟨x152, ex152, hf⟩ := bd_some hf
          refine ct_VB (pc := 778) (As := []) (rest := []) (cb := [bX4 cI cZ a q w_O, bX3 cI (q 0) qN w_N, bX0 cI (q 12) qD w_D, bX1 (qD 13) w_DW, bX1 (qD 14) w_DP]) (cb1 := [bX4 cI cZ a q w_O, bX3 cI (q 0) qN w_N, bX0 cI (q 12) qD x152.2.1, bX1 (qD 13) x152.2.2.1, bX1 (qD 14) x152.2.2.2]) (bs1 := [bX4 cI cZ a q w_O, bX3 cI (q 0) qN w_N, bX3 cI (q 1) qT w_T, bX2 cI (q 2) qC w_C, bX0 cI (q 12) qD x152.2.1, bX1 (qD 13) x152.2.2.1, bX1 (qD 14) x152.2.2.2, bPA cI cS (q 3) w_PA, bIM cI cS (q 5) w_IM, bX5 cI cZ am qM w_M]) ⟨hx, hb, hml, hown, hts⟩ hK (c_X4_key l D cI cZ cS a q qN qD w_O w_N w_D w_DW w_DP x152 ex152) gv_RL_105 rfl hs_X4_key rfl ⟨Nat.le_of_ble_eq_true rfl, Nat.le_of_ble_eq_true rfl⟩ (ci := 4) rfl rfl rfl hl.1 rfl (Nat.le_of_ble_eq_true rfl) dL_law_778 ⟨Nat.le_of_ble_eq_true rfl, Nat.le_of_ble_eq_true rfl⟩ hP hD hS hA [0, 1, 4, 5, 6] [2, 3, 7, 8, 9] [0, 1, 5, 6, 2, 3, 4, 7, 8, 9] (nb := 10) (nb1 := 10) rfl (by decide) rfl rfl rfl (by decide) rfl (fun H locs hP hD hS => ?_)
          refine lv_aload_n (pc := 781) hx hb dL_law_781 rfl (lv_at hl 2 rfl) ?_
          obtain ⟨x153, ex153, hf⟩ := bd_some hf
          refine ct_VB (pc := 782) (As := []) (rest := [.int x152.1]) (cb := [bX5 cI cZ am qM w_M]) (cb1 := [bX5 cI cZ am qM x153.2]) (bs1 := [bX4 cI cZ a q w_O, bX3 cI (q 0) qN w_N, bX3 cI (q 1) qT w_T, bX2 cI (q 2) qC w_C, bX0 cI (q 12) qD x152.2.1, bX1 (qD 13) x152.2.2.1, bX1 (qD 14) x152.2.2.2, bPA cI cS (q 3) w_PA, bIM cI cS (q 5) w_IM, bX5 cI cZ am qM x153.2]) ⟨hx, hb, hml, hown, hts⟩ hK (c_X5_key l D cI cZ cS am qM w_M x153 ex153) gv_RL_108 rfl hs_X5_key rfl ⟨Nat.le_of_ble_eq_true rfl, Nat.le_of_ble_eq_true rfl⟩ (ci := 5) rfl rfl rfl hl.1 rfl (Nat.le_of_ble_eq_true rfl) dL_law_782 ⟨Nat.le_of_ble_eq_true rfl, Nat.le_of_ble_eq_true rfl⟩ hP hD hS hA [9] [0, 1, 2, 3, 4, 5, 6, 7, 8] [1, 2, 3, 4, 5, 6, 7, 8, 9, 0] (nb := 10) (nb1 := 10) rfl (by decide) rfl rfl rfl (by decide) rfl (fun H locs hP hD hS => ?_)
          refine lv_icmp_eq (pc := 785) (tgt := 1030) hx hb dL_law_785 (by decide) (fun c154 => ?_) (fun c154 => ?_)
          · replace hf := ip c154 hf
            refine lv_iinc (v := (v3 + 5)) (lv' := [(3, .int (v3 + 5)), (0, .ref b), (1, .ref a), (2, .ref am)]) (pc := 1030) hx hb dL_law_1030 hl (k := 3) rfl rfl (by decide) rfl (fun ls hl => ?_)
            refine lv_goto (pc := 1033) (tgt := 18) hx hb dL_law_1033 (by decide) ?_
            exact ih _ _ _ _ _ _ _ _ _ _ _ H locs ls hf hP hD hS (lv_sub hl [1, 2, 3, 0] rfl)
          · replace hf := im c154 hf
            refine lv_iconst (v := 0) (pc := 788) hx hb dL_law_788 (by decide) ?_
            exact absurd (Option.some.inj hf) (by decide)
        replace hf := im c151 hf
        by_cases c155 : ((xs (v3 : Int32).toNatClampNeg) &&& 31) = 22
        · refine lv_tableIn (pc := 32) (off := 758) (tgt := 790) hx hb dL_law_32 (by rw [c155]; decide) (by rw [c155]; decide) (by rw [c155]; decide) (by decide) ?_
          replace hf := ip c155 hf
          refine lv_aload_n (pc := 790) hx hb dL_law_790 rfl (lv_at hl 1 rfl) ?_
          refine lv_aload_n (pc := 791) hx hb dL_law_791 rfl (lv_at hl 0 rfl) ?_
          refine lv_iload_n (pc := 792) hx hb dL_law_792 rfl (lv_at hl 3 rfl) ?_
          refine lv_iconst (v := 1) (pc := 793) hx hb dL_law_793 (by decide) ?_
          refine lv_iadd (pc := 794) hx hb dL_law_794 ?_
          obtain ⟨h156, hf⟩ := ck_some hf
          refine va_sld (pc := 795) hx hb hX hbl hbA hS h156 dL_law_795 ?_
          refine lv_aload_n (pc := 796) hx hb dL_law_796 rfl (lv_at hl 0 rfl) ?_
          refine lv_iload_n (pc := 797) hx hb dL_law_797 rfl (lv_at hl 3 rfl) ?_
          refine lv_iconst (v := 2) (pc := 798) hx hb dL_law_798 (by decide) ?_
          refine lv_iadd (pc := 799) hx hb dL_law_799 ?_
          obtain ⟨h157, hf⟩ := ck_some hf
          refine va_sld (pc := 800) hx hb hX hbl hbA hS h157 dL_law_800 ?_
          obtain ⟨x158, ex158, hf⟩ := bd_some hf
          refine ct_VB (pc := 801) (As := [.int (xs ((v3 + 1) : Int32).toNatClampNeg), .int (xs ((v3 + 2) : Int32).toNatClampNeg)]) (rest := []) (cb := [bX4 cI cZ a q w_O, bX3 cI (q 0) qN w_N, bX0 cI (q 12) qD w_D, bX1 (qD 13) w_DW, bX1 (qD 14) w_DP]) (cb1 := [bX4 cI cZ a q w_O, bX3 cI (q 0) qN w_N, bX0 cI (q 12) qD x158.2.1, bX1 (qD 13) x158.2.2.1, bX1 (qD 14) x158.2.2.2]) (bs1 := [bX4 cI cZ a q w_O, bX3 cI (q 0) qN w_N, bX3 cI (q 1) qT w_T, bX2 cI (q 2) qC w_C, bX0 cI (q 12) qD x158.2.1, bX1 (qD 13) x158.2.2.1, bX1 (qD 14) x158.2.2.2, bPA cI cS (q 3) w_PA, bIM cI cS (q 5) w_IM, bX5 cI cZ am qM w_M]) ⟨hx, hb, hml, hown, hts⟩ hK (c_X4_extra l D cI cZ cS a q qN qD (xs ((v3 + 1) : Int32).toNatClampNeg) (xs ((v3 + 2) : Int32).toNatClampNeg) w_O w_N w_D w_DW w_DP x158 ex158) gv_RL_109 rfl hs_X4_extra rfl ⟨Nat.le_of_ble_eq_true rfl, Nat.le_of_ble_eq_true rfl⟩ (ci := 4) rfl rfl rfl hl.1 rfl (Nat.le_of_ble_eq_true rfl) dL_law_801 ⟨Nat.le_of_ble_eq_true rfl, Nat.le_of_ble_eq_true rfl⟩ hP hD hS hA [0, 1, 4, 5, 6] [2, 3, 7, 8, 9] [0, 1, 5, 6, 2, 3, 4, 7, 8, 9] (nb := 10) (nb1 := 10) rfl (by decide) rfl rfl rfl (by decide) rfl (fun H locs hP hD hS => ?_)
          refine lv_aload_n (pc := 804) hx hb dL_law_804 rfl (lv_at hl 2 rfl) ?_
          refine lv_aload_n (pc := 805) hx hb dL_law_805 rfl (lv_at hl 0 rfl) ?_
          refine lv_iload_n (pc := 806) hx hb dL_law_806 rfl (lv_at hl 3 rfl) ?_
          refine lv_iconst (v := 1) (pc := 807) hx hb dL_law_807 (by decide) ?_
          refine lv_iadd (pc := 808) hx hb dL_law_808 ?_
          obtain ⟨h159, hf⟩ := ck_some hf
          refine va_sld (pc := 809) hx hb hX hbl hbA hS h159 dL_law_809 ?_
          refine lv_aload_n (pc := 810) hx hb dL_law_810 rfl (lv_at hl 0 rfl) ?_
          refine lv_iload_n (pc := 811) hx hb dL_law_811 rfl (lv_at hl 3 rfl) ?_
          refine lv_iconst (v := 2) (pc := 812) hx hb dL_law_812 (by decide) ?_
          refine lv_iadd (pc := 813) hx hb dL_law_813 ?_
          obtain ⟨h160, hf⟩ := ck_some hf
          refine va_sld (pc := 814) hx hb hX hbl hbA hS h160 dL_law_814 ?_
          obtain ⟨x161, ex161, hf⟩ := bd_some hf
          refine ct_VB (pc := 815) (As := [.int (xs ((v3 + 1) : Int32).toNatClampNeg), .int (xs ((v3 + 2) : Int32).toNatClampNeg)]) (rest := [.int x158.1]) (cb := [bX5 cI cZ am qM w_M]) (cb1 := [bX5 cI cZ am qM x161.2]) (bs1 := [bX4 cI cZ a q w_O, bX3 cI (q 0) qN w_N, bX3 cI (q 1) qT w_T, bX2 cI (q 2) qC w_C, bX0 cI (q 12) qD x158.2.1, bX1 (qD 13) x158.2.2.1, bX1 (qD 14) x158.2.2.2, bPA cI cS (q 3) w_PA, bIM cI cS (q 5) w_IM, bX5 cI cZ am qM x161.2]) ⟨hx, hb, hml, hown, hts⟩ hK (c_X5_extra l D cI cZ cS am qM (xs ((v3 + 1) : Int32).toNatClampNeg) (xs ((v3 + 2) : Int32).toNatClampNeg) w_M x161 ex161) gv_RL_112 rfl hs_X5_extra rfl ⟨Nat.le_of_ble_eq_true rfl, Nat.le_of_ble_eq_true rfl⟩ (ci := 5) rfl rfl rfl hl.1 rfl (Nat.le_of_ble_eq_true rfl) dL_law_815 ⟨Nat.le_of_ble_eq_true rfl, Nat.le_of_ble_eq_true rfl⟩ hP hD hS hA [9] [0, 1, 2, 3, 4, 5, 6, 7, 8] [1, 2, 3, 4, 5, 6, 7, 8, 9, 0] (nb := 10) (nb1 := 10) rfl (by decide) rfl rfl rfl (by decide) rfl (fun H locs hP hD hS => ?_)
          refine lv_icmp_eq (pc := 818) (tgt := 1030) hx hb dL_law_818 (by decide) (fun c162 => ?_) (fun c162 => ?_)
          · replace hf := ip c162 hf
            refine lv_iinc (v := (v3 + 5)) (lv' := [(3, .int (v3 + 5)), (0, .ref b), (1, .ref a), (2, .ref am)]) (pc := 1030) hx hb dL_law_1030 hl (k := 3) rfl rfl (by decide) rfl (fun ls hl => ?_)
            refine lv_goto (pc := 1033) (tgt := 18) hx hb dL_law_1033 (by decide) ?_
            exact ih _ _ _ _ _ _ _ _ _ _ _ H locs ls hf hP hD hS (lv_sub hl [1, 2, 3, 0] rfl)
          · replace hf := im c162 hf
            refine lv_iconst (v := 0) (pc := 821) hx hb dL_law_821 (by decide) ?_
            exact absurd (Option.some.inj hf) (by decide)
        replace hf := im c155 hf
        by_cases c163 : ((xs (v3 : Int32).toNatClampNeg) &&& 31) = 23
        · refine lv_tableIn (pc := 32) (off := 791) (tgt := 823) hx hb dL_law_32 (by rw [c163]; decide) (by rw [c163]; decide) (by rw [c163]; decide) (by decide) ?_
          replace hf := ip c163 hf
          refine lv_aload_n (pc := 823) hx hb dL_law_823 rfl (lv_at hl 1 rfl) ?_
          refine lv_aload_n (pc := 824) hx hb dL_law_824 rfl (lv_at hl 0 rfl) ?_
          refine lv_iload_n (pc := 825) hx hb dL_law_825 rfl (lv_at hl 3 rfl) ?_
          refine lv_iconst (v := 1) (pc := 826) hx hb dL_law_826 (by decide) ?_
          refine lv_iadd (pc := 827) hx hb dL_law_827 ?_
          obtain ⟨h164, hf⟩ := ck_some hf
          refine va_sld (pc := 828) hx hb hX hbl hbA hS h164 dL_law_828 ?_
          refine lv_aload_n (pc := 829) hx hb dL_law_829 rfl (lv_at hl 0 rfl) ?_
          refine lv_iload_n (pc := 830) hx hb dL_law_830 rfl (lv_at hl 3 rfl) ?_
          refine lv_iconst (v := 2) (pc := 831) hx hb dL_law_831 (by decide) ?_
          refine lv_iadd (pc := 832) hx hb dL_law_832 ?_
          obtain ⟨h165, hf⟩ := ck_some hf
          refine va_sld (pc := 833) hx hb hX hbl hbA hS h165 dL_law_833 ?_
          obtain ⟨x166, ex166, hf⟩ := bd_some hf
          refine ct_VB (pc := 834) (As := [.int (xs ((v3 + 1) : Int32).toNatClampNeg), .int (xs ((v3 + 2) : Int32).toNatClampNeg)]) (rest := []) (cb := [bX4 cI cZ a q w_O, bX3 cI (q 0) qN w_N, bX0 cI (q 12) qD w_D, bX1 (qD 13) w_DW, bX1 (qD 14) w_DP]) (cb1 := [bX4 cI cZ a q w_O, bX3 cI (q 0) qN w_N, bX0 cI (q 12) qD x166.2.1, bX1 (qD 13) x166.2.2.1, bX1 (qD 14) x166.2.2.2]) (bs1 := [bX4 cI cZ a q w_O, bX3 cI (q 0) qN w_N, bX3 cI (q 1) qT w_T, bX2 cI (q 2) qC w_C, bX0 cI (q 12) qD x166.2.1, bX1 (qD 13) x166.2.2.1, bX1 (qD 14) x166.2.2.2, bPA cI cS (q 3) w_PA, bIM cI cS (q 5) w_IM, bX5 cI cZ am qM w_M]) ⟨hx, hb, hml, hown, hts⟩ hK (c_X4_odds l D cI cZ cS a q qN qD (xs ((v3 + 1) : Int32).toNatClampNeg) (xs ((v3 + 2) : Int32).toNatClampNeg) w_O w_N w_D w_DW w_DP x166 ex166) gv_RL_113 rfl hs_X4_odds rfl ⟨Nat.le_of_ble_eq_true rfl, Nat.le_of_ble_eq_true rfl⟩ (ci := 4) rfl rfl rfl hl.1 rfl (Nat.le_of_ble_eq_true rfl) dL_law_834 ⟨Nat.le_of_ble_eq_true rfl, Nat.le_of_ble_eq_true rfl⟩ hP hD hS hA [0, 1, 4, 5, 6] [2, 3, 7, 8, 9] [0, 1, 5, 6, 2, 3, 4, 7, 8, 9] (nb := 10) (nb1 := 10) rfl (by decide) rfl rfl rfl (by decide) rfl (fun H locs hP hD hS => ?_)
          refine lv_aload_n (pc := 837) hx hb dL_law_837 rfl (lv_at hl 2 rfl) ?_
          refine lv_aload_n (pc := 838) hx hb dL_law_838 rfl (lv_at hl 0 rfl) ?_
          refine lv_iload_n (pc := 839) hx hb dL_law_839 rfl (lv_at hl 3 rfl) ?_
          refine lv_iconst (v := 1) (pc := 840) hx hb dL_law_840 (by decide) ?_
          refine lv_iadd (pc := 841) hx hb dL_law_841 ?_
          obtain ⟨h167, hf⟩ := ck_some hf
          refine va_sld (pc := 842) hx hb hX hbl hbA hS h167 dL_law_842 ?_
          refine lv_aload_n (pc := 843) hx hb dL_law_843 rfl (lv_at hl 0 rfl) ?_
          refine lv_iload_n (pc := 844) hx hb dL_law_844 rfl (lv_at hl 3 rfl) ?_
          refine lv_iconst (v := 2) (pc := 845) hx hb dL_law_845 (by decide) ?_
          refine lv_iadd (pc := 846) hx hb dL_law_846 ?_
          obtain ⟨h168, hf⟩ := ck_some hf
          refine va_sld (pc := 847) hx hb hX hbl hbA hS h168 dL_law_847 ?_
          obtain ⟨x169, ex169, hf⟩ := bd_some hf
          refine ct_VB (pc := 848) (As := [.int (xs ((v3 + 1) : Int32).toNatClampNeg), .int (xs ((v3 + 2) : Int32).toNatClampNeg)]) (rest := [.int x166.1]) (cb := [bX5 cI cZ am qM w_M]) (cb1 := [bX5 cI cZ am qM x169.2]) (bs1 := [bX4 cI cZ a q w_O, bX3 cI (q 0) qN w_N, bX3 cI (q 1) qT w_T, bX2 cI (q 2) qC w_C, bX0 cI (q 12) qD x166.2.1, bX1 (qD 13) x166.2.2.1, bX1 (qD 14) x166.2.2.2, bPA cI cS (q 3) w_PA, bIM cI cS (q 5) w_IM, bX5 cI cZ am qM x169.2]) ⟨hx, hb, hml, hown, hts⟩ hK (c_X5_odds l D cI cZ cS am qM (xs ((v3 + 1) : Int32).toNatClampNeg) (xs ((v3 + 2) : Int32).toNatClampNeg) w_M x169 ex169) gv_RL_116 rfl hs_X5_odds rfl ⟨Nat.le_of_ble_eq_true rfl, Nat.le_of_ble_eq_true rfl⟩ (ci := 5) rfl rfl rfl hl.1 rfl (Nat.le_of_ble_eq_true rfl) dL_law_848 ⟨Nat.le_of_ble_eq_true rfl, Nat.le_of_ble_eq_true rfl⟩ hP hD hS hA [9] [0, 1, 2, 3, 4, 5, 6, 7, 8] [1, 2, 3, 4, 5, 6, 7, 8, 9, 0] (nb := 10) (nb1 := 10) rfl (by decide) rfl rfl rfl (by decide) rfl (fun H locs hP hD hS => ?_)
          refine lv_icmp_eq (pc := 851) (tgt := 1030) hx hb dL_law_851 (by decide) (fun c170 => ?_) (fun c170 => ?_)
          · replace hf := ip c170 hf
            refine lv_iinc (v := (v3 + 5)) (lv' := [(3, .int (v3 + 5)), (0, .ref b), (1, .ref a), (2, .ref am)]) (pc := 1030) hx hb dL_law_1030 hl (k := 3) rfl rfl (by decide) rfl (fun ls hl => ?_)
            refine lv_goto (pc := 1033) (tgt := 18) hx hb dL_law_1033 (by decide) ?_
            exact ih _ _ _ _ _ _ _ _ _ _ _ H locs ls hf hP hD hS (lv_sub hl [1, 2, 3, 0] rfl)
          · replace hf := im c170 hf
            refine lv_iconst (v := 0) (pc := 854) hx hb dL_law_854 (by decide) ?_
            exact absurd (Option.some.inj hf) (by decide)
        replace hf := im c163 hf
        by_cases c171 : ((xs (v3 : Int32).toNatClampNeg) &&& 31) = 24
        · refine lv_tableIn (pc := 32) (off := 824) (tgt := 856) hx hb dL_law_32 (by rw [c171]; decide) (by rw [c171]; decide) (by rw [c171]; decide) (by decide) ?_
          replace hf := ip c171 hf
          refine lv_aload_n (pc := 856) hx hb dL_law_856 rfl (lv_at hl 1 rfl) ?_
          refine lv_aload_n (pc := 857) hx hb dL_law_857 rfl (lv_at hl 0 rfl) ?_
          refine lv_iload_n (pc := 858) hx hb dL_law_858 rfl (lv_at hl 3 rfl) ?_
          refine lv_iconst (v := 1) (pc := 859) hx hb dL_law_859 (by decide) ?_
          refine lv_iadd (pc := 860) hx hb dL_law_860 ?_
          obtain ⟨h172, hf⟩ := ck_some hf
          refine va_sld (pc := 861) hx hb hX hbl hbA hS h172 dL_law_861 ?_
          obtain ⟨x173, ex173, hf⟩ := bd_some hf
          refine ct_VB (pc := 862) (As := [.int (xs ((v3 + 1) : Int32).toNatClampNeg)]) (rest := []) (cb := [bX4 cI cZ a q w_O]) (cb1 := [bX4 cI cZ a q x173.2]) (bs1 := [bX4 cI cZ a q x173.2, bX3 cI (q 0) qN w_N, bX3 cI (q 1) qT w_T, bX2 cI (q 2) qC w_C, bX0 cI (q 12) qD w_D, bX1 (qD 13) w_DW, bX1 (qD 14) w_DP, bPA cI cS (q 3) w_PA, bIM cI cS (q 5) w_IM, bX5 cI cZ am qM w_M]) ⟨hx, hb, hml, hown, hts⟩ hK (c_X4_hunts l D cI cZ cS a q (xs ((v3 + 1) : Int32).toNatClampNeg) w_O x173 ex173) gv_RL_117 rfl hs_X4_hunts rfl ⟨Nat.le_of_ble_eq_true rfl, Nat.le_of_ble_eq_true rfl⟩ (ci := 4) rfl rfl rfl hl.1 rfl (Nat.le_of_ble_eq_true rfl) dL_law_862 ⟨Nat.le_of_ble_eq_true rfl, Nat.le_of_ble_eq_true rfl⟩ hP hD hS hA [0] [1, 2, 3, 4, 5, 6, 7, 8, 9] [0, 1, 2, 3, 4, 5, 6, 7, 8, 9] (nb := 10) (nb1 := 10) rfl (by decide) rfl rfl rfl (by decide) rfl (fun H locs hP hD hS => ?_)
          refine lv_aload_n (pc := 865) hx hb dL_law_865 rfl (lv_at hl 2 rfl) ?_
          refine lv_aload_n (pc := 866) hx hb dL_law_866 rfl (lv_at hl 0 rfl) ?_
          refine lv_iload_n (pc := 867) hx hb dL_law_867 rfl (lv_at hl 3 rfl) ?_
          refine lv_iconst (v := 1) (pc := 868) hx hb dL_law_868 (by decide) ?_
          refine lv_iadd (pc := 869) hx hb dL_law_869 ?_
          obtain ⟨h174, hf⟩ := ck_some hf
          refine va_sld (pc := 870) hx hb hX hbl hbA hS h174 dL_law_870 ?_
          obtain ⟨x175, ex175, hf⟩ := bd_some hf
          refine ct_VB (pc := 871) (As := [.int (xs ((v3 + 1) : Int32).toNatClampNeg)]) (rest := [.int x173.1]) (cb := [bX5 cI cZ am qM w_M]) (cb1 := [bX5 cI cZ am qM x175.2]) (bs1 := [bX4 cI cZ a q x173.2, bX3 cI (q 0) qN w_N, bX3 cI (q 1) qT w_T, bX2 cI (q 2) qC w_C, bX0 cI (q 12) qD w_D, bX1 (qD 13) w_DW, bX1 (qD 14) w_DP, bPA cI cS (q 3) w_PA, bIM cI cS (q 5) w_IM, bX5 cI cZ am qM x175.2]) ⟨hx, hb, hml, hown, hts⟩ hK (c_X5_hunts l D cI cZ cS am qM (xs ((v3 + 1) : Int32).toNatClampNeg) w_M x175 ex175) gv_RL_120 rfl hs_X5_hunts rfl ⟨Nat.le_of_ble_eq_true rfl, Nat.le_of_ble_eq_true rfl⟩ (ci := 5) rfl rfl rfl hl.1 rfl (Nat.le_of_ble_eq_true rfl) dL_law_871 ⟨Nat.le_of_ble_eq_true rfl, Nat.le_of_ble_eq_true rfl⟩ hP hD hS hA [9] [0, 1, 2, 3, 4, 5, 6, 7, 8] [1, 2, 3, 4, 5, 6, 7, 8, 9, 0] (nb := 10) (nb1 := 10) rfl (by decide) rfl rfl rfl (by decide) rfl (fun H locs hP hD hS => ?_)
          refine lv_icmp_eq (pc := 874) (tgt := 1030) hx hb dL_law_874 (by decide) (fun c176 => ?_) (fun c176 => ?_)
          · replace hf := ip c176 hf
            refine lv_iinc (v := (v3 + 5)) (lv' := [(3, .int (v3 + 5)), (0, .ref b), (1, .ref a), (2, .ref am)]) (pc := 1030) hx hb dL_law_1030 hl (k := 3) rfl rfl (by decide) rfl (fun ls hl => ?_)
            refine lv_goto (pc := 1033) (tgt := 18) hx hb dL_law_1033 (by decide) ?_
            exact ih _ _ _ _ _ _ _ _ _ _ _ H locs ls hf hP hD hS (lv_sub hl [1, 2, 3, 0] rfl)
          · replace hf := im c176 hf
            refine lv_iconst (v := 0) (pc := 877) hx hb dL_law_877 (by decide) ?_
            exact absurd (Option.some.inj hf) (by decide)
        replace hf := im c171 hf
        by_cases c177 : ((xs (v3 : Int32).toNatClampNeg) &&& 31) = 25
        · refine lv_tableIn (pc := 32) (off := 847) (tgt := 879) hx hb dL_law_32 (by rw [c177]; decide) (by rw [c177]; decide) (by rw [c177]; decide) (by decide) ?_
          replace hf := ip c177 hf
          refine lv_aload_n (pc := 879) hx hb dL_law_879 rfl (lv_at hl 1 rfl) ?_
          refine lv_aload_n (pc := 880) hx hb dL_law_880 rfl (lv_at hl 0 rfl) ?_
          refine lv_iload_n (pc := 881) hx hb dL_law_881 rfl (lv_at hl 3 rfl) ?_
          refine lv_iconst (v := 1) (pc := 882) hx hb dL_law_882 (by decide) ?_
          refine lv_iadd (pc := 883) hx hb dL_law_883 ?_
          obtain ⟨h178, hf⟩ := ck_some hf
          refine va_sld (pc := 884) hx hb hX hbl hbA hS h178 dL_law_884 ?_
          refine lv_aload_n (pc := 885) hx hb dL_law_885 rfl (lv_at hl 0 rfl) ?_
          refine lv_iload_n (pc := 886) hx hb dL_law_886 rfl (lv_at hl 3 rfl) ?_
          refine lv_iconst (v := 2) (pc := 887) hx hb dL_law_887 (by decide) ?_
          refine lv_iadd (pc := 888) hx hb dL_law_888 ?_
          obtain ⟨h179, hf⟩ := ck_some hf
          refine va_sld (pc := 889) hx hb hX hbl hbA hS h179 dL_law_889 ?_
          obtain ⟨x180, ex180, hf⟩ := bd_some hf
          refine ct_VB (pc := 890) (As := [.int (xs ((v3 + 1) : Int32).toNatClampNeg), .int (xs ((v3 + 2) : Int32).toNatClampNeg)]) (rest := []) (cb := [bX4 cI cZ a q w_O, bX3 cI (q 0) qN w_N]) (cb1 := [bX4 cI cZ a q x180.2, bX3 cI (q 0) qN w_N]) (bs1 := [bX4 cI cZ a q x180.2, bX3 cI (q 0) qN w_N, bX3 cI (q 1) qT w_T, bX2 cI (q 2) qC w_C, bX0 cI (q 12) qD w_D, bX1 (qD 13) w_DW, bX1 (qD 14) w_DP, bPA cI cS (q 3) w_PA, bIM cI cS (q 5) w_IM, bX5 cI cZ am qM w_M]) ⟨hx, hb, hml, hown, hts⟩ hK (c_X4_sees l D cI cZ cS a q qN (xs ((v3 + 1) : Int32).toNatClampNeg) (xs ((v3 + 2) : Int32).toNatClampNeg) w_O w_N x180 ex180) gv_RL_121 rfl hs_X4_sees rfl ⟨Nat.le_of_ble_eq_true rfl, Nat.le_of_ble_eq_true rfl⟩ (ci := 4) rfl rfl rfl hl.1 rfl (Nat.le_of_ble_eq_true rfl) dL_law_890 ⟨Nat.le_of_ble_eq_true rfl, Nat.le_of_ble_eq_true rfl⟩ hP hD hS hA [0, 1] [2, 3, 4, 5, 6, 7, 8, 9] [0, 1, 2, 3, 4, 5, 6, 7, 8, 9] (nb := 10) (nb1 := 10) rfl (by decide) rfl rfl rfl (by decide) rfl (fun H locs hP hD hS => ?_)
          refine lv_aload_n (pc := 893) hx hb dL_law_893 rfl (lv_at hl 2 rfl) ?_
          refine lv_aload_n (pc := 894) hx hb dL_law_894 rfl (lv_at hl 0 rfl) ?_
          refine lv_iload_n (pc := 895) hx hb dL_law_895 rfl (lv_at hl 3 rfl) ?_
          refine lv_iconst (v := 1) (pc := 896) hx hb dL_law_896 (by decide) ?_
          refine lv_iadd (pc := 897) hx hb dL_law_897 ?_
          obtain ⟨h181, hf⟩ := ck_some hf
          refine va_sld (pc := 898) hx hb hX hbl hbA hS h181 dL_law_898 ?_
          refine lv_aload_n (pc := 899) hx hb dL_law_899 rfl (lv_at hl 0 rfl) ?_
          refine lv_iload_n (pc := 900) hx hb dL_law_900 rfl (lv_at hl 3 rfl) ?_
          refine lv_iconst (v := 2) (pc := 901) hx hb dL_law_901 (by decide) ?_
          refine lv_iadd (pc := 902) hx hb dL_law_902 ?_
          obtain ⟨h182, hf⟩ := ck_some hf
          refine va_sld (pc := 903) hx hb hX hbl hbA hS h182 dL_law_903 ?_
          obtain ⟨x183, ex183, hf⟩ := bd_some hf
          refine ct_VB (pc := 904) (As := [.int (xs ((v3 + 1) : Int32).toNatClampNeg), .int (xs ((v3 + 2) : Int32).toNatClampNeg)]) (rest := [.int x180.1]) (cb := [bX5 cI cZ am qM w_M]) (cb1 := [bX5 cI cZ am qM x183.2]) (bs1 := [bX4 cI cZ a q x180.2, bX3 cI (q 0) qN w_N, bX3 cI (q 1) qT w_T, bX2 cI (q 2) qC w_C, bX0 cI (q 12) qD w_D, bX1 (qD 13) w_DW, bX1 (qD 14) w_DP, bPA cI cS (q 3) w_PA, bIM cI cS (q 5) w_IM, bX5 cI cZ am qM x183.2]) ⟨hx, hb, hml, hown, hts⟩ hK (c_X5_sees l D cI cZ cS am qM (xs ((v3 + 1) : Int32).toNatClampNeg) (xs ((v3 + 2) : Int32).toNatClampNeg) w_M x183 ex183) gv_RL_124 rfl hs_X5_sees rfl ⟨Nat.le_of_ble_eq_true rfl, Nat.le_of_ble_eq_true rfl⟩ (ci := 5) rfl rfl rfl hl.1 rfl (Nat.le_of_ble_eq_true rfl) dL_law_904 ⟨Nat.le_of_ble_eq_true rfl, Nat.le_of_ble_eq_true rfl⟩ hP hD hS hA [9] [0, 1, 2, 3, 4, 5, 6, 7, 8] [1, 2, 3, 4, 5, 6, 7, 8, 9, 0] (nb := 10) (nb1 := 10) rfl (by decide) rfl rfl rfl (by decide) rfl (fun H locs hP hD hS => ?_)
          refine lv_icmp_eq (pc := 907) (tgt := 1030) hx hb dL_law_907 (by decide) (fun c184 => ?_) (fun c184 => ?_)
          · replace hf := ip c184 hf
            refine lv_iinc (v := (v3 + 5)) (lv' := [(3, .int (v3 + 5)), (0, .ref b), (1, .ref a), (2, .ref am)]) (pc := 1030) hx hb dL_law_1030 hl (k := 3) rfl rfl (by decide) rfl (fun ls hl => ?_)
            refine lv_goto (pc := 1033) (tgt := 18) hx hb dL_law_1033 (by decide) ?_
            exact ih _ _ _ _ _ _ _ _ _ _ _ H locs ls hf hP hD hS (lv_sub hl [1, 2, 3, 0] rfl)
          · replace hf := im c184 hf
            refine lv_iconst (v := 0) (pc := 910) hx hb dL_law_910 (by decide) ?_
            exact absurd (Option.some.inj hf) (by decide)
        replace hf := im c177 hf
        by_cases c185 : ((xs (v3 : Int32).toNatClampNeg) &&& 31) = 26
        · refine lv_tableIn (pc := 32) (off := 880) (tgt := 912) hx hb dL_law_32 (by rw [c185]; decide) (by rw [c185]; decide) (by rw [c185]; decide) (by decide) ?_
          replace hf := ip c185 hf
          refine lv_aload_n (pc := 912) hx hb dL_law_912 rfl (lv_at hl 1 rfl) ?_
          obtain ⟨x186, ex186, hf⟩ := bd_some hf
          refine ct_VB (pc := 913) (As := []) (rest := []) (cb := [bX4 cI cZ a q w_O]) (cb1 := [bX4 cI cZ a q x186.2]) (bs1 := [bX4 cI cZ a q x186.2, bX3 cI (q 0) qN w_N, bX3 cI (q 1) qT w_T, bX2 cI (q 2) qC w_C, bX0 cI (q 12) qD w_D, bX1 (qD 13) w_DW, bX1 (qD 14) w_DP, bPA cI cS (q 3) w_PA, bIM cI cS (q 5) w_IM, bX5 cI cZ am qM w_M]) ⟨hx, hb, hml, hown, hts⟩ hK (c_X4_forget l D cI cZ cS a q w_O x186 ex186) gv_RL_125 rfl hs_X4_forget rfl ⟨Nat.le_of_ble_eq_true rfl, Nat.le_of_ble_eq_true rfl⟩ (ci := 4) rfl rfl rfl hl.1 rfl (Nat.le_of_ble_eq_true rfl) dL_law_913 ⟨Nat.le_of_ble_eq_true rfl, Nat.le_of_ble_eq_true rfl⟩ hP hD hS hA [0] [1, 2, 3, 4, 5, 6, 7, 8, 9] [0, 1, 2, 3, 4, 5, 6, 7, 8, 9] (nb := 10) (nb1 := 10) rfl (by decide) rfl rfl rfl (by decide) rfl (fun H locs hP hD hS => ?_)
          refine lv_aload_n (pc := 916) hx hb dL_law_916 rfl (lv_at hl 2 rfl) ?_
          obtain ⟨x187, ex187, hf⟩ := bd_some hf
          refine ct_VB (pc := 917) (As := []) (rest := [.int x186.1]) (cb := [bX5 cI cZ am qM w_M]) (cb1 := [bX5 cI cZ am qM x187.2]) (bs1 := [bX4 cI cZ a q x186.2, bX3 cI (q 0) qN w_N, bX3 cI (q 1) qT w_T, bX2 cI (q 2) qC w_C, bX0 cI (q 12) qD w_D, bX1 (qD 13) w_DW, bX1 (qD 14) w_DP, bPA cI cS (q 3) w_PA, bIM cI cS (q 5) w_IM, bX5 cI cZ am qM x187.2]) ⟨hx, hb, hml, hown, hts⟩ hK (c_X5_forget l D cI cZ cS am qM w_M x187 ex187) gv_RL_128 rfl hs_X5_forget rfl ⟨Nat.le_of_ble_eq_true rfl, Nat.le_of_ble_eq_true rfl⟩ (ci := 5) rfl rfl rfl hl.1 rfl (Nat.le_of_ble_eq_true rfl) dL_law_917 ⟨Nat.le_of_ble_eq_true rfl, Nat.le_of_ble_eq_true rfl⟩ hP hD hS hA [9] [0, 1, 2, 3, 4, 5, 6, 7, 8] [1, 2, 3, 4, 5, 6, 7, 8, 9, 0] (nb := 10) (nb1 := 10) rfl (by decide) rfl rfl rfl (by decide) rfl (fun H locs hP hD hS => ?_)
          refine lv_icmp_eq (pc := 920) (tgt := 1030) hx hb dL_law_920 (by decide) (fun c188 => ?_) (fun c188 => ?_)
          · replace hf := ip c188 hf
            refine lv_iinc (v := (v3 + 5)) (lv' := [(3, .int (v3 + 5)), (0, .ref b), (1, .ref a), (2, .ref am)]) (pc := 1030) hx hb dL_law_1030 hl (k := 3) rfl rfl (by decide) rfl (fun ls hl => ?_)
            refine lv_goto (pc := 1033) (tgt := 18) hx hb dL_law_1033 (by decide) ?_
            exact ih _ _ _ _ _ _ _ _ _ _ _ H locs ls hf hP hD hS (lv_sub hl [1, 2, 3, 0] rfl)
          · replace hf := im c188 hf
            refine lv_iconst (v := 0) (pc := 923) hx hb dL_law_923 (by decide) ?_
            exact absurd (Option.some.inj hf) (by decide)
        replace hf := im c185 hf
        by_cases c189 : ((xs (v3 : Int32).toNatClampNeg) &&& 31) = 27
        · refine lv_tableIn (pc := 32) (off := 893) (tgt := 925) hx hb dL_law_32 (by rw [c189]; decide) (by rw [c189]; decide) (by rw [c189]; decide) (by decide) ?_
          replace hf := ip c189 hf
          refine lv_aload_n (pc := 925) hx hb dL_law_925 rfl (lv_at hl 1 rfl) ?_
          refine lv_aload_n (pc := 926) hx hb dL_law_926 rfl (lv_at hl 0 rfl) ?_
          refine lv_iload_n (pc := 927) hx hb dL_law_927 rfl (lv_at hl 3 rfl) ?_
          refine lv_iconst (v := 1) (pc := 928) hx hb dL_law_928 (by decide) ?_
          refine lv_iadd (pc := 929) hx hb dL_law_929 ?_
          obtain ⟨h190, hf⟩ := ck_some hf
          refine va_sld (pc := 930) hx hb hX hbl hbA hS h190 dL_law_930 ?_
          obtain ⟨x191, ex191, hf⟩ := bd_some hf
          refine ct_VB (pc := 931) (As := [.int (xs ((v3 + 1) : Int32).toNatClampNeg)]) (rest := []) (cb := [bX4 cI cZ a q w_O, bX3 cI (q 0) qN w_N, bX0 cI (q 12) qD w_D, bX1 (qD 13) w_DW, bX1 (qD 14) w_DP]) (cb1 := [bX4 cI cZ a q w_O, bX3 cI (q 0) qN w_N, bX0 cI (q 12) qD x191.2.1, bX1 (qD 13) x191.2.2.1, bX1 (qD 14) x191.2.2.2]) (bs1 := [bX4 cI cZ a q w_O, bX3 cI (q 0) qN w_N, bX3 cI (q 1) qT w_T, bX2 cI (q 2) qC w_C, bX0 cI (q 12) qD x191.2.1, bX1 (qD 13) x191.2.2.1, bX1 (qD 14) x191.2.2.2, bPA cI cS (q 3) w_PA, bIM cI cS (q 5) w_IM, bX5 cI cZ am qM w_M]) ⟨hx, hb, hml, hown, hts⟩ hK (c_X4_spots l D cI cZ cS a q qN qD (xs ((v3 + 1) : Int32).toNatClampNeg) w_O w_N w_D w_DW w_DP x191 ex191) gv_RL_129 rfl hs_X4_spots rfl ⟨Nat.le_of_ble_eq_true rfl, Nat.le_of_ble_eq_true rfl⟩ (ci := 4) rfl rfl rfl hl.1 rfl (Nat.le_of_ble_eq_true rfl) dL_law_931 ⟨Nat.le_of_ble_eq_true rfl, Nat.le_of_ble_eq_true rfl⟩ hP hD hS hA [0, 1, 4, 5, 6] [2, 3, 7, 8, 9] [0, 1, 5, 6, 2, 3, 4, 7, 8, 9] (nb := 10) (nb1 := 10) rfl (by decide) rfl rfl rfl (by decide) rfl (fun H locs hP hD hS => ?_)
          refine lv_aload_n (pc := 934) hx hb dL_law_934 rfl (lv_at hl 2 rfl) ?_
          refine lv_aload_n (pc := 935) hx hb dL_law_935 rfl (lv_at hl 0 rfl) ?_
          refine lv_iload_n (pc := 936) hx hb dL_law_936 rfl (lv_at hl 3 rfl) ?_
          refine lv_iconst (v := 1) (pc := 937) hx hb dL_law_937 (by decide) ?_
          refine lv_iadd (pc := 938) hx hb dL_law_938 ?_
          obtain ⟨h192, hf⟩ := ck_some hf
          refine va_sld (pc := 939) hx hb hX hbl hbA hS h192 dL_law_939 ?_
          obtain ⟨x193, ex193, hf⟩ := bd_some hf
          refine ct_VB (pc := 940) (As := [.int (xs ((v3 + 1) : Int32).toNatClampNeg)]) (rest := [.int x191.1]) (cb := [bX5 cI cZ am qM w_M]) (cb1 := [bX5 cI cZ am qM x193.2]) (bs1 := [bX4 cI cZ a q w_O, bX3 cI (q 0) qN w_N, bX3 cI (q 1) qT w_T, bX2 cI (q 2) qC w_C, bX0 cI (q 12) qD x191.2.1, bX1 (qD 13) x191.2.2.1, bX1 (qD 14) x191.2.2.2, bPA cI cS (q 3) w_PA, bIM cI cS (q 5) w_IM, bX5 cI cZ am qM x193.2]) ⟨hx, hb, hml, hown, hts⟩ hK (c_X5_spots l D cI cZ cS am qM (xs ((v3 + 1) : Int32).toNatClampNeg) w_M x193 ex193) gv_RL_132 rfl hs_X5_spots rfl ⟨Nat.le_of_ble_eq_true rfl, Nat.le_of_ble_eq_true rfl⟩ (ci := 5) rfl rfl rfl hl.1 rfl (Nat.le_of_ble_eq_true rfl) dL_law_940 ⟨Nat.le_of_ble_eq_true rfl, Nat.le_of_ble_eq_true rfl⟩ hP hD hS hA [9] [0, 1, 2, 3, 4, 5, 6, 7, 8] [1, 2, 3, 4, 5, 6, 7, 8, 9, 0] (nb := 10) (nb1 := 10) rfl (by decide) rfl rfl rfl (by decide) rfl (fun H locs hP hD hS => ?_)
          refine lv_icmp_eq (pc := 943) (tgt := 1030) hx hb dL_law_943 (by decide) (fun c194 => ?_) (fun c194 => ?_)
          · replace hf := ip c194 hf
            refine lv_iinc (v := (v3 + 5)) (lv' := [(3, .int (v3 + 5)), (0, .ref b), (1, .ref a), (2, .ref am)]) (pc := 1030) hx hb dL_law_1030 hl (k := 3) rfl rfl (by decide) rfl (fun ls hl => ?_)
            refine lv_goto (pc := 1033) (tgt := 18) hx hb dL_law_1033 (by decide) ?_
            exact ih _ _ _ _ _ _ _ _ _ _ _ H locs ls hf hP hD hS (lv_sub hl [1, 2, 3, 0] rfl)
          · replace hf := im c194 hf
            refine lv_iconst (v := 0) (pc := 946) hx hb dL_law_946 (by decide) ?_
            exact absurd (Option.some.inj hf) (by decide)
        replace hf := im c189 hf
        by_cases c195 : ((xs (v3 : Int32).toNatClampNeg) &&& 31) = 28
        · refine lv_tableIn (pc := 32) (off := 916) (tgt := 948) hx hb dL_law_32 (by rw [c195]; decide) (by rw [c195]; decide) (by rw [c195]; decide) (by decide) ?_
          replace hf := ip c195 hf
          refine lv_aload_n (pc := 948) hx hb dL_law_948 rfl (lv_at hl 1 rfl) ?_
          obtain ⟨x196, ex196, hf⟩ := bd_some hf
          refine ct_VB (pc := 949) (As := []) (rest := []) (cb := [bX4 cI cZ a q w_O, bX3 cI (q 0) qN w_N, bX0 cI (q 12) qD w_D, bX1 (qD 13) w_DW, bX1 (qD 14) w_DP]) (cb1 := [bX4 cI cZ a q x196.2.1, bX3 cI (q 0) qN w_N, bX0 cI (q 12) qD x196.2.2.1, bX1 (qD 13) x196.2.2.2.1, bX1 (qD 14) x196.2.2.2.2]) (bs1 := [bX4 cI cZ a q x196.2.1, bX3 cI (q 0) qN w_N, bX3 cI (q 1) qT w_T, bX2 cI (q 2) qC w_C, bX0 cI (q 12) qD x196.2.2.1, bX1 (qD 13) x196.2.2.2.1, bX1 (qD 14) x196.2.2.2.2, bPA cI cS (q 3) w_PA, bIM cI cS (q 5) w_IM, bX5 cI cZ am qM w_M]) ⟨hx, hb, hml, hown, hts⟩ hK (c_X4_ask l D cI cZ cS a q qN qD w_O w_N w_D w_DW w_DP x196 ex196) gv_RL_133 rfl hs_X4_ask rfl ⟨Nat.le_of_ble_eq_true rfl, Nat.le_of_ble_eq_true rfl⟩ (ci := 4) rfl rfl rfl hl.1 rfl (Nat.le_of_ble_eq_true rfl) dL_law_949 ⟨Nat.le_of_ble_eq_true rfl, Nat.le_of_ble_eq_true rfl⟩ hP hD hS hA [0, 1, 4, 5, 6] [2, 3, 7, 8, 9] [0, 1, 5, 6, 2, 3, 4, 7, 8, 9] (nb := 10) (nb1 := 10) rfl (by decide) rfl rfl rfl (by decide) rfl (fun H locs hP hD hS => ?_)
          refine lv_aload_n (pc := 952) hx hb dL_law_952 rfl (lv_at hl 2 rfl) ?_
          obtain ⟨x197, ex197, hf⟩ := bd_some hf
          refine ct_VB (pc := 953) (As := []) (rest := [.int x196.1]) (cb := [bX5 cI cZ am qM w_M]) (cb1 := [bX5 cI cZ am qM x197.2]) (bs1 := [bX4 cI cZ a q x196.2.1, bX3 cI (q 0) qN w_N, bX3 cI (q 1) qT w_T, bX2 cI (q 2) qC w_C, bX0 cI (q 12) qD x196.2.2.1, bX1 (qD 13) x196.2.2.2.1, bX1 (qD 14) x196.2.2.2.2, bPA cI cS (q 3) w_PA, bIM cI cS (q 5) w_IM, bX5 cI cZ am qM x197.2]) ⟨hx, hb, hml, hown, hts⟩ hK (c_X5_ask l D cI cZ cS am qM w_M x197 ex197) gv_RL_136 rfl hs_X5_ask rfl ⟨Nat.le_of_ble_eq_true rfl, Nat.le_of_ble_eq_true rfl⟩ (ci := 5) rfl rfl rfl hl.1 rfl (Nat.le_of_ble_eq_true rfl) dL_law_953 ⟨Nat.le_of_ble_eq_true rfl, Nat.le_of_ble_eq_true rfl⟩ hP hD hS hA [9] [0, 1, 2, 3, 4, 5, 6, 7, 8] [1, 2, 3, 4, 5, 6, 7, 8, 9, 0] (nb := 10) (nb1 := 10) rfl (by decide) rfl rfl rfl (by decide) rfl (fun H locs hP hD hS => ?_)
          refine lv_icmp_eq (pc := 956) (tgt := 1030) hx hb dL_law_956 (by decide) (fun c198 => ?_) (fun c198 => ?_)
          · replace hf := ip c198 hf
            refine lv_iinc (v := (v3 + 5)) (lv' := [(3, .int (v3 + 5)), (0, .ref b), (1, .ref a), (2, .ref am)]) (pc := 1030) hx hb dL_law_1030 hl (k := 3) rfl rfl (by decide) rfl (fun ls hl => ?_)
            refine lv_goto (pc := 1033) (tgt := 18) hx hb dL_law_1033 (by decide) ?_
            exact ih _ _ _ _ _ _ _ _ _ _ _ H locs ls hf hP hD hS (lv_sub hl [1, 2, 3, 0] rfl)
          · replace hf := im c198 hf
            refine lv_iconst (v := 0) (pc := 959) hx hb dL_law_959 (by decide) ?_
            exact absurd (Option.some.inj hf) (by decide)
        replace hf := im c195 hf
        by_cases c199 : ((xs (v3 : Int32).toNatClampNeg) &&& 31) = 29
        · refine lv_tableIn (pc := 32) (off := 929) (tgt := 961) hx hb dL_law_32 (by rw [c199]; decide) (by rw [c199]; decide) (by rw [c199]; decide) (by decide) ?_
          replace hf := ip c199 hf
          refine lv_aload_n (pc := 961) hx hb dL_law_961 rfl (lv_at hl 1 rfl) ?_
          refine lv_aload_n (pc := 962) hx hb dL_law_962 rfl (lv_at hl 0 rfl) ?_
          refine lv_iload_n (pc := 963) hx hb dL_law_963 rfl (lv_at hl 3 rfl) ?_
          refine lv_iconst (v := 1) (pc := 964) hx hb dL_law_964 (by decide) ?_
          refine lv_iadd (pc := 965) hx hb dL_law_965 ?_
          obtain ⟨h200, hf⟩ := ck_some hf
          refine va_sld (pc := 966) hx hb hX hbl hbA hS h200 dL_law_966 ?_
          obtain ⟨x201, ex201, hf⟩ := bd_some hf
          refine ct_VB (pc := 967) (As := [.int (xs ((v3 + 1) : Int32).toNatClampNeg)]) (rest := []) (cb := [bX4 cI cZ a q w_O, bX3 cI (q 0) qN w_N, bIM cI cS (q 5) w_IM]) (cb1 := [bX4 cI cZ a q x201.2.1, bX3 cI (q 0) qN w_N, bIM cI cS (q 5) x201.2.2]) (bs1 := [bX4 cI cZ a q x201.2.1, bX3 cI (q 0) qN w_N, bX3 cI (q 1) qT w_T, bX2 cI (q 2) qC w_C, bX0 cI (q 12) qD w_D, bX1 (qD 13) w_DW, bX1 (qD 14) w_DP, bPA cI cS (q 3) w_PA, bIM cI cS (q 5) x201.2.2, bX5 cI cZ am qM w_M]) ⟨hx, hb, hml, hown, hts⟩ hK (c_X4_keep l D cI cZ cS a q qN (xs ((v3 + 1) : Int32).toNatClampNeg) w_O w_N w_IM x201 ex201) gv_RL_137 rfl hs_X4_keep rfl ⟨Nat.le_of_ble_eq_true rfl, Nat.le_of_ble_eq_true rfl⟩ (ci := 4) rfl rfl rfl hl.1 rfl (Nat.le_of_ble_eq_true rfl) dL_law_967 ⟨Nat.le_of_ble_eq_true rfl, Nat.le_of_ble_eq_true rfl⟩ hP hD hS hA [0, 1, 8] [2, 3, 4, 5, 6, 7, 9] [0, 1, 3, 4, 5, 6, 7, 8, 2, 9] (nb := 10) (nb1 := 10) rfl (by decide) rfl rfl rfl (by decide) rfl (fun H locs hP hD hS => ?_)
          refine lv_aload_n (pc := 970) hx hb dL_law_970 rfl (lv_at hl 2 rfl) ?_
          refine lv_aload_n (pc := 971) hx hb dL_law_971 rfl (lv_at hl 0 rfl) ?_
          refine lv_iload_n (pc := 972) hx hb dL_law_972 rfl (lv_at hl 3 rfl) ?_
          refine lv_iconst (v := 1) (pc := 973) hx hb dL_law_973 (by decide) ?_
          refine lv_iadd (pc := 974) hx hb dL_law_974 ?_
          obtain ⟨h202, hf⟩ := ck_some hf
          refine va_sld (pc := 975) hx hb hX hbl hbA hS h202 dL_law_975 ?_
          obtain ⟨x203, ex203, hf⟩ := bd_some hf
          refine ct_VB (pc := 976) (As := [.int (xs ((v3 + 1) : Int32).toNatClampNeg)]) (rest := [.int x201.1]) (cb := [bX5 cI cZ am qM w_M]) (cb1 := [bX5 cI cZ am qM x203.2]) (bs1 := [bX4 cI cZ a q x201.2.1, bX3 cI (q 0) qN w_N, bX3 cI (q 1) qT w_T, bX2 cI (q 2) qC w_C, bX0 cI (q 12) qD w_D, bX1 (qD 13) w_DW, bX1 (qD 14) w_DP, bPA cI cS (q 3) w_PA, bIM cI cS (q 5) x201.2.2, bX5 cI cZ am qM x203.2]) ⟨hx, hb, hml, hown, hts⟩ hK (c_X5_keep l D cI cZ cS am qM (xs ((v3 + 1) : Int32).toNatClampNeg) w_M x203 ex203) gv_RL_140 rfl hs_X5_keep rfl ⟨Nat.le_of_ble_eq_true rfl, Nat.le_of_ble_eq_true rfl⟩ (ci := 5) rfl rfl rfl hl.1 rfl (Nat.le_of_ble_eq_true rfl) dL_law_976 ⟨Nat.le_of_ble_eq_true rfl, Nat.le_of_ble_eq_true rfl⟩ hP hD hS hA [9] [0, 1, 2, 3, 4, 5, 6, 7, 8] [1, 2, 3, 4, 5, 6, 7, 8, 9, 0] (nb := 10) (nb1 := 10) rfl (by decide) rfl rfl rfl (by decide) rfl (fun H locs hP hD hS => ?_)
          refine lv_icmp_eq (pc := 979) (tgt := 1030) hx hb dL_law_979 (by decide) (fun c204 => ?_) (fun c204 => ?_)
          · replace hf := ip c204 hf
            refine lv_iinc (v := (v3 + 5)) (lv' := [(3, .int (v3 + 5)), (0, .ref b), (1, .ref a), (2, .ref am)]) (pc := 1030) hx hb dL_law_1030 hl (k := 3) rfl rfl (by decide) rfl (fun ls hl => ?_)
            refine lv_goto (pc := 1033) (tgt := 18) hx hb dL_law_1033 (by decide) ?_
            exact ih _ _ _ _ _ _ _ _ _ _ _ H locs ls hf hP hD hS (lv_sub hl [1, 2, 3, 0] rfl)
          · replace hf := im c204 hf
            refine lv_iconst (v := 0) (pc := 982) hx hb dL_law_982 (by decide) ?_
            exact absurd (Option.some.inj hf) (by decide)
        replace hf := im c199 hf
        by_cases c205 : ((xs (v3 : Int32).toNatClampNeg) &&& 31) = 30
        · refine lv_tableIn (pc := 32) (off := 952) (tgt := 984) hx hb dL_law_32 (by rw [c205]; decide) (by rw [c205]; decide) (by rw [c205]; decide) (by decide) ?_
          replace hf := ip c205 hf
          refine lv_aload_n (pc := 984) hx hb dL_law_984 rfl (lv_at hl 1 rfl) ?_
          refine lv_aload_n (pc := 985) hx hb dL_law_985 rfl (lv_at hl 0 rfl) ?_
          refine lv_iload_n (pc := 986) hx hb dL_law_986 rfl (lv_at hl 3 rfl) ?_
          refine lv_iconst (v := 1) (pc := 987) hx hb dL_law_987 (by decide) ?_
          refine lv_iadd (pc := 988) hx hb dL_law_988 ?_
          obtain ⟨h206, hf⟩ := ck_some hf
          refine va_sld (pc := 989) hx hb hX hbl hbA hS h206 dL_law_989 ?_
          obtain ⟨x207, ex207, hf⟩ := bd_some hf
          refine ct_VB (pc := 990) (As := [.int (xs ((v3 + 1) : Int32).toNatClampNeg)]) (rest := []) (cb := [bX4 cI cZ a q w_O, bX3 cI (q 0) qN w_N, bIM cI cS (q 5) w_IM]) (cb1 := [bX4 cI cZ a q x207.2.1, bX3 cI (q 0) qN x207.2.2, bIM cI cS (q 5) w_IM]) (bs1 := [bX4 cI cZ a q x207.2.1, bX3 cI (q 0) qN x207.2.2, bX3 cI (q 1) qT w_T, bX2 cI (q 2) qC w_C, bX0 cI (q 12) qD w_D, bX1 (qD 13) w_DW, bX1 (qD 14) w_DP, bPA cI cS (q 3) w_PA, bIM cI cS (q 5) w_IM, bX5 cI cZ am qM w_M]) ⟨hx, hb, hml, hown, hts⟩ hK (c_X4_back l D cI cZ cS a q qN (xs ((v3 + 1) : Int32).toNatClampNeg) w_O w_N w_IM x207 ex207) gv_RL_141 rfl hs_X4_back rfl ⟨Nat.le_of_ble_eq_true rfl, Nat.le_of_ble_eq_true rfl⟩ (ci := 4) rfl rfl rfl hl.1 rfl (Nat.le_of_ble_eq_true rfl) dL_law_990 ⟨Nat.le_of_ble_eq_true rfl, Nat.le_of_ble_eq_true rfl⟩ hP hD hS hA [0, 1, 8] [2, 3, 4, 5, 6, 7, 9] [0, 1, 3, 4, 5, 6, 7, 8, 2, 9] (nb := 10) (nb1 := 10) rfl (by decide) rfl rfl rfl (by decide) rfl (fun H locs hP hD hS => ?_)
          refine lv_aload_n (pc := 993) hx hb dL_law_993 rfl (lv_at hl 2 rfl) ?_
          refine lv_aload_n (pc := 994) hx hb dL_law_994 rfl (lv_at hl 0 rfl) ?_
          refine lv_iload_n (pc := 995) hx hb dL_law_995 rfl (lv_at hl 3 rfl) ?_
          refine lv_iconst (v := 1) (pc := 996) hx hb dL_law_996 (by decide) ?_
          refine lv_iadd (pc := 997) hx hb dL_law_997 ?_
          obtain ⟨h208, hf⟩ := ck_some hf
          refine va_sld (pc := 998) hx hb hX hbl hbA hS h208 dL_law_998 ?_
          obtain ⟨x209, ex209, hf⟩ := bd_some hf
          refine ct_VB (pc := 999) (As := [.int (xs ((v3 + 1) : Int32).toNatClampNeg)]) (rest := [.int x207.1]) (cb := [bX5 cI cZ am qM w_M]) (cb1 := [bX5 cI cZ am qM x209.2]) (bs1 := [bX4 cI cZ a q x207.2.1, bX3 cI (q 0) qN x207.2.2, bX3 cI (q 1) qT w_T, bX2 cI (q 2) qC w_C, bX0 cI (q 12) qD w_D, bX1 (qD 13) w_DW, bX1 (qD 14) w_DP, bPA cI cS (q 3) w_PA, bIM cI cS (q 5) w_IM, bX5 cI cZ am qM x209.2]) ⟨hx, hb, hml, hown, hts⟩ hK (c_X5_back l D cI cZ cS am qM (xs ((v3 + 1) : Int32).toNatClampNeg) w_M x209 ex209) gv_RL_144 rfl hs_X5_back rfl ⟨Nat.le_of_ble_eq_true rfl, Nat.le_of_ble_eq_true rfl⟩ (ci := 5) rfl rfl rfl hl.1 rfl (Nat.le_of_ble_eq_true rfl) dL_law_999 ⟨Nat.le_of_ble_eq_true rfl, Nat.le_of_ble_eq_true rfl⟩ hP hD hS hA [9] [0, 1, 2, 3, 4, 5, 6, 7, 8] [1, 2, 3, 4, 5, 6, 7, 8, 9, 0] (nb := 10) (nb1 := 10) rfl (by decide) rfl rfl rfl (by decide) rfl (fun H locs hP hD hS => ?_)
          refine lv_icmp_eq (pc := 1002) (tgt := 1030) hx hb dL_law_1002 (by decide) (fun c210 => ?_) (fun c210 => ?_)
          · replace hf := ip c210 hf
            refine lv_iinc (v := (v3 + 5)) (lv' := [(3, .int (v3 + 5)), (0, .ref b), (1, .ref a), (2, .ref am)]) (pc := 1030) hx hb dL_law_1030 hl (k := 3) rfl rfl (by decide) rfl (fun ls hl => ?_)
            refine lv_goto (pc := 1033) (tgt := 18) hx hb dL_law_1033 (by decide) ?_
            exact ih _ _ _ _ _ _ _ _ _ _ _ H locs ls hf hP hD hS (lv_sub hl [1, 2, 3, 0] rfl)
          · replace hf := im c210 hf
            refine lv_iconst (v := 0) (pc := 1005) hx hb dL_law_1005 (by decide) ?_
            exact absurd (Option.some.inj hf) (by decide)
        replace hf := im c205 hf
        by_cases c211 : ((xs (v3 : Int32).toNatClampNeg) &&& 31) = 31
        · refine lv_tableIn (pc := 32) (off := 975) (tgt := 1007) hx hb dL_law_32 (by rw [c211]; decide) (by rw [c211]; decide) (by rw [c211]; decide) (by decide) ?_
          replace hf := ip c211 hf
          refine lv_aload_n (pc := 1007) hx hb dL_law_1007 rfl (lv_at hl 1 rfl) ?_
          refine lv_aload_n (pc := 1008) hx hb dL_law_1008 rfl (lv_at hl 0 rfl) ?_
          refine lv_iload_n (pc := 1009) hx hb dL_law_1009 rfl (lv_at hl 3 rfl) ?_
          refine lv_iconst (v := 1) (pc := 1010) hx hb dL_law_1010 (by decide) ?_
          refine lv_iadd (pc := 1011) hx hb dL_law_1011 ?_
          obtain ⟨h212, hf⟩ := ck_some hf
          refine va_sld (pc := 1012) hx hb hX hbl hbA hS h212 dL_law_1012 ?_
          obtain ⟨x213, ex213, hf⟩ := bd_some hf
          refine ct_VB (pc := 1013) (As := [.int (xs ((v3 + 1) : Int32).toNatClampNeg)]) (rest := []) (cb := [bX4 cI cZ a q w_O, bX3 cI (q 0) qN w_N, bX2 cI (q 2) qC w_C]) (cb1 := [bX4 cI cZ a q w_O, bX3 cI (q 0) qN w_N, bX2 cI (q 2) qC w_C]) (bs1 := [bX4 cI cZ a q w_O, bX3 cI (q 0) qN w_N, bX3 cI (q 1) qT w_T, bX2 cI (q 2) qC w_C, bX0 cI (q 12) qD w_D, bX1 (qD 13) w_DW, bX1 (qD 14) w_DP, bPA cI cS (q 3) w_PA, bIM cI cS (q 5) w_IM, bX5 cI cZ am qM w_M]) ⟨hx, hb, hml, hown, hts⟩ hK (c_X4_count l D cI cZ cS a q qN qC (xs ((v3 + 1) : Int32).toNatClampNeg) w_O w_N w_C x213 ex213) gv_RL_145 rfl hs_X4_count rfl ⟨Nat.le_of_ble_eq_true rfl, Nat.le_of_ble_eq_true rfl⟩ (ci := 4) rfl rfl rfl hl.1 rfl (Nat.le_of_ble_eq_true rfl) dL_law_1013 ⟨Nat.le_of_ble_eq_true rfl, Nat.le_of_ble_eq_true rfl⟩ hP hD hS hA [0, 1, 3] [2, 4, 5, 6, 7, 8, 9] [0, 1, 3, 2, 4, 5, 6, 7, 8, 9] (nb := 10) (nb1 := 10) rfl (by decide) rfl rfl rfl (by decide) rfl (fun H locs hP hD hS => ?_)
          refine lv_aload_n (pc := 1016) hx hb dL_law_1016 rfl (lv_at hl 2 rfl) ?_
          refine lv_aload_n (pc := 1017) hx hb dL_law_1017 rfl (lv_at hl 0 rfl) ?_
          refine lv_iload_n (pc := 1018) hx hb dL_law_1018 rfl (lv_at hl 3 rfl) ?_
          refine lv_iconst (v := 1) (pc := 1019) hx hb dL_law_1019 (by decide) ?_
          refine lv_iadd (pc := 1020) hx hb dL_law_1020 ?_
          obtain ⟨h214, hf⟩ := ck_some hf
          refine va_sld (pc := 1021) hx hb hX hbl hbA hS h214 dL_law_1021 ?_
          obtain ⟨x215, ex215, hf⟩ := bd_some hf
          refine ct_VB (pc := 1022) (As := [.int (xs ((v3 + 1) : Int32).toNatClampNeg)]) (rest := [.int x213]) (cb := [bX5 cI cZ am qM w_M]) (cb1 := [bX5 cI cZ am qM w_M]) (bs1 := [bX4 cI cZ a q w_O, bX3 cI (q 0) qN w_N, bX3 cI (q 1) qT w_T, bX2 cI (q 2) qC w_C, bX0 cI (q 12) qD w_D, bX1 (qD 13) w_DW, bX1 (qD 14) w_DP, bPA cI cS (q 3) w_PA, bIM cI cS (q 5) w_IM, bX5 cI cZ am qM w_M]) ⟨hx, hb, hml, hown, hts⟩ hK (c_X5_count l D cI cZ cS am qM (xs ((v3 + 1) : Int32).toNatClampNeg) w_M x215 ex215) gv_RL_148 rfl hs_X5_count rfl ⟨Nat.le_of_ble_eq_true rfl, Nat.le_of_ble_eq_true rfl⟩ (ci := 5) rfl rfl rfl hl.1 rfl (Nat.le_of_ble_eq_true rfl) dL_law_1022 ⟨Nat.le_of_ble_eq_true rfl, Nat.le_of_ble_eq_true rfl⟩ hP hD hS hA [9] [0, 1, 2, 3, 4, 5, 6, 7, 8] [1, 2, 3, 4, 5, 6, 7, 8, 9, 0] (nb := 10) (nb1 := 10) rfl (by decide) rfl rfl rfl (by decide) rfl (fun H locs hP hD hS => ?_)
          refine lv_icmp_eq (pc := 1025) (tgt := 1030) hx hb dL_law_1025 (by decide) (fun c216 => ?_) (fun c216 => ?_)
          · replace hf := ip c216 hf
            refine lv_iinc (v := (v3 + 5)) (lv' := [(3, .int (v3 + 5)), (0, .ref b), (1, .ref a), (2, .ref am)]) (pc := 1030) hx hb dL_law_1030 hl (k := 3) rfl rfl (by decide) rfl (fun ls hl => ?_)
            refine lv_goto (pc := 1033) (tgt := 18) hx hb dL_law_1033 (by decide) ?_
            exact ih _ _ _ _ _ _ _ _ _ _ _ H locs ls hf hP hD hS (lv_sub hl [1, 2, 3, 0] rfl)
          · replace hf := im c216 hf
            refine lv_iconst (v := 0) (pc := 1028) hx hb dL_law_1028 (by decide) ?_
            exact absurd (Option.some.inj hf) (by decide)
        replace hf := im c211 hf
        refine lv_tableOut (pc := 32) (tgt := 1030) hx hb dL_law_32 (by have := lv_neT c3 (a := 0) rfl; have := lv_neT c9 (a := 1) rfl; have := lv_neT c13 (a := 2) rfl; have := lv_neT c17 (a := 3) rfl; have := lv_neT c29 (a := 4) rfl; have := lv_neT c35 (a := 5) rfl; have := lv_neT c41 (a := 6) rfl; have := lv_neT c49 (a := 7) rfl; have := lv_neT c59 (a := 8) rfl; have := lv_neT c67 (a := 9) rfl; have := lv_neT c71 (a := 10) rfl; have := lv_neT c79 (a := 11) rfl; have := lv_neT c87 (a := 12) rfl; have := lv_neT c93 (a := 13) rfl; have := lv_neT c99 (a := 14) rfl; have := lv_neT c107 (a := 15) rfl; have := lv_neT c117 (a := 16) rfl; have := lv_neT c123 (a := 17) rfl; have := lv_neT c129 (a := 18) rfl; have := lv_neT c137 (a := 19) rfl; have := lv_neT c143 (a := 20) rfl; have := lv_neT c151 (a := 21) rfl; have := lv_neT c155 (a := 22) rfl; have := lv_neT c163 (a := 23) rfl; have := lv_neT c171 (a := 24) rfl; have := lv_neT c177 (a := 25) rfl; have := lv_neT c185 (a := 26) rfl; have := lv_neT c189 (a := 27) rfl; have := lv_neT c195 (a := 28) rfl; have := lv_neT c199 (a := 29) rfl; have := lv_neT c205 (a := 30) rfl; have := lv_neT c211 (a := 31) rfl; omega) (by decide) ?_
        refine lv_iinc (v := (v3 + 5)) (lv' := [(3, .int (v3 + 5)), (0, .ref b), (1, .ref a), (2, .ref am)]) (pc := 1030) hx hb dL_law_1030 hl (k := 3) rfl rfl (by decide) rfl (fun ls hl => ?_)
        refine lv_goto (pc := 1033) (tgt := 18) hx hb dL_law_1033 (by decide) ?_
        exact ih _ _ _ _ _ _ _ _ _ _ _ H locs ls hf hP hD hS (lv_sub hl [1, 2, 3, 0] rfl)
