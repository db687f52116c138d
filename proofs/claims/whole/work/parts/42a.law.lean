theorem lk_Law_101 : Cond.methodLink "SecretWellsLaw" 101 y_Mo_rain ∈ gTbl := gt_8 172 (by decide +kernel) (by decide +kernel)
theorem lk_Law_102 : Cond.methodLink "SecretWellsLaw" 102 y_Co_rainAt ∈ gTbl := gt_5 185 (by decide +kernel) (by decide +kernel)
theorem lk_Law_105 : Cond.methodLink "SecretWellsLaw" 105 y_Mo_rainAt ∈ gTbl := gt_8 192 (by decide +kernel) (by decide +kernel)
theorem lk_Law_106 : Cond.methodLink "SecretWellsLaw" 106 y_Co_silence ∈ gTbl := gt_5 206 (by decide +kernel) (by decide +kernel)
theorem lk_Law_109 : Cond.methodLink "SecretWellsLaw" 109 y_Mo_silence ∈ gTbl := gt_8 204 (by decide +kernel) (by decide +kernel)
theorem lk_Law_110 : Cond.methodLink "SecretWellsLaw" 110 y_Co_reach ∈ gTbl := gt_5 226 (by decide +kernel) (by decide +kernel)
theorem lk_Law_113 : Cond.methodLink "SecretWellsLaw" 113 y_Mo_reach ∈ gTbl := gt_8 196 (by decide +kernel) (by decide +kernel)
theorem lk_Law_114 : Cond.methodLink "SecretWellsLaw" 114 y_Co_holds ∈ gTbl := gt_5 232 (by decide +kernel) (by decide +kernel)
theorem lk_Law_117 : Cond.methodLink "SecretWellsLaw" 117 y_Mo_holds ∈ gTbl := gt_8 208 (by decide +kernel) (by decide +kernel)
theorem lk_Law_118 : Cond.methodLink "SecretWellsLaw" 118 y_Co_rings ∈ gTbl := gt_6 0 (by decide +kernel) (by decide +kernel)
theorem lk_Law_121 : Cond.methodLink "SecretWellsLaw" 121 y_Mo_rings ∈ gTbl := gt_8 216 (by decide +kernel) (by decide +kernel)
theorem lk_Law_122 : Cond.methodLink "SecretWellsLaw" 122 y_Co_quiet ∈ gTbl := gt_6 4 (by decide +kernel) (by decide +kernel)
theorem lk_Law_125 : Cond.methodLink "SecretWellsLaw" 125 y_Mo_quiet ∈ gTbl := gt_8 220 (by decide +kernel) (by decide +kernel)
theorem lk_Law_126 : Cond.methodLink "SecretWellsLaw" 126 y_Co_odds ∈ gTbl := gt_5 189 (by decide +kernel) (by decide +kernel)
theorem lk_Law_13 : Cond.methodLink "SecretWellsLaw" 13 y_Co_feed ∈ gTbl := gt_3 138 (by decide +kernel) (by decide +kernel)
theorem lk_Law_130 : Cond.methodLink "SecretWellsLaw" 130 y_Mo_odds ∈ gTbl := gt_8 236 (by decide +kernel) (by decide +kernel)
theorem lk_Law_131 : Cond.methodLink "SecretWellsLaw" 131 y_Co_deaths ∈ gTbl := gt_5 196 (by decide +kernel) (by decide +kernel)
theorem lk_Law_134 : Cond.methodLink "SecretWellsLaw" 134 y_Mo_deaths ∈ gTbl := gt_9 7 (by decide +kernel) (by decide +kernel)
theorem lk_Law_135 : Cond.methodLink "SecretWellsLaw" 135 y_Co_worth ∈ gTbl := gt_5 200 (by decide +kernel) (by decide +kernel)
theorem lk_Law_138 : Cond.methodLink "SecretWellsLaw" 138 y_Mo_worth ∈ gTbl := gt_9 11 (by decide +kernel) (by decide +kernel)
theorem lk_Law_139 : Cond.methodLink "SecretWellsLaw" 139 y_Co_note ∈ gTbl := gt_6 32 (by decide +kernel) (by decide +kernel)
theorem lk_Law_142 : Cond.methodLink "SecretWellsLaw" 142 y_Mo_note ∈ gTbl := gt_9 15 (by decide +kernel) (by decide +kernel)
theorem lk_Law_143 : Cond.methodLink "SecretWellsLaw" 143 y_Co_forget ∈ gTbl := gt_6 40 (by decide +kernel) (by decide +kernel)
theorem lk_Law_146 : Cond.methodLink "SecretWellsLaw" 146 y_Mo_forget ∈ gTbl := gt_9 19 (by decide +kernel) (by decide +kernel)
theorem lk_Law_147 : Cond.methodLink "SecretWellsLaw" 147 y_Co_truth ∈ gTbl := gt_6 44 (by decide +kernel) (by decide +kernel)
theorem lk_Law_150 : Cond.methodLink "SecretWellsLaw" 150 y_Mo_truth ∈ gTbl := gt_9 23 (by decide +kernel) (by decide +kernel)
theorem lk_Law_151 : Cond.methodLink "SecretWellsLaw" 151 y_Co_sure ∈ gTbl := gt_6 60 (by decide +kernel) (by decide +kernel)
theorem lk_Law_155 : Cond.methodLink "SecretWellsLaw" 155 y_Mo_sure ∈ gTbl := gt_9 35 (by decide +kernel) (by decide +kernel)
theorem lk_Law_156 : Cond.methodLink "SecretWellsLaw" 156 y_Co_next ∈ gTbl := gt_6 68 (by decide +kernel) (by decide +kernel)
theorem lk_Law_159 : Cond.methodLink "SecretWellsLaw" 159 y_Mo_next ∈ gTbl := gt_9 39 (by decide +kernel) (by decide +kernel)
theorem lk_Law_160 : Cond.methodLink "SecretWellsLaw" 160 y_Co_hold ∈ gTbl := gt_5 94 (by decide +kernel) (by decide +kernel)
theorem lk_Law_164 : Cond.methodLink "SecretWellsLaw" 164 y_Mo_hold ∈ gTbl := gt_9 43 (by decide +kernel) (by decide +kernel)
theorem lk_Law_165 : Cond.methodLink "SecretWellsLaw" 165 y_Co_restore ∈ gTbl := gt_5 98 (by decide +kernel) (by decide +kernel)
theorem lk_Law_168 : Cond.methodLink "SecretWellsLaw" 168 y_Mo_restore ∈ gTbl := gt_9 47 (by decide +kernel) (by decide +kernel)
theorem lk_Law_169 : Cond.methodLink "SecretWellsLaw" 169 y_Co_count ∈ gTbl := gt_5 4 (by decide +kernel) (by decide +kernel)
theorem lk_Law_17 : Cond.methodLink "SecretWellsLaw" 17 y_Mo_feed ∈ gTbl := gt_7 121 (by decide +kernel) (by decide +kernel)
theorem lk_Law_172 : Cond.methodLink "SecretWellsLaw" 172 y_Mo_count ∈ gTbl := gt_9 51 (by decide +kernel) (by decide +kernel)
theorem lk_Law_18 : Cond.methodLink "SecretWellsLaw" 18 y_Co_back ∈ gTbl := gt_3 146 (by decide +kernel) (by decide +kernel)
theorem lk_Law_22 : Cond.methodLink "SecretWellsLaw" 22 y_Mo_back ∈ gTbl := gt_7 129 (by decide +kernel) (by decide +kernel)
theorem lk_Law_23 : Cond.methodLink "SecretWellsLaw" 23 y_Co_read ∈ gTbl := gt_3 150 (by decide +kernel) (by decide +kernel)
theorem lk_Law_27 : Cond.methodLink "SecretWellsLaw" 27 y_Mo_read ∈ gTbl := gt_7 133 (by decide +kernel) (by decide +kernel)
theorem lk_Law_28 : Cond.methodLink "SecretWellsLaw" 28 y_Co_place ∈ gTbl := gt_4 172 (by decide +kernel) (by decide +kernel)
theorem lk_Law_31 : Cond.methodLink "SecretWellsLaw" 31 y_Mo_place ∈ gTbl := gt_8 3 (by decide +kernel) (by decide +kernel)
theorem lk_Law_32 : Cond.methodLink "SecretWellsLaw" 32 y_Co_well ∈ gTbl := gt_4 176 (by decide +kernel) (by decide +kernel)
theorem lk_Law_36 : Cond.methodLink "SecretWellsLaw" 36 y_Mo_well ∈ gTbl := gt_8 7 (by decide +kernel) (by decide +kernel)
theorem lk_Law_37 : Cond.methodLink "SecretWellsLaw" 37 y_Co_man ∈ gTbl := gt_4 205 (by decide +kernel) (by decide +kernel)
theorem lk_Law_40 : Cond.methodLink "SecretWellsLaw" 40 y_Mo_man ∈ gTbl := gt_8 57 (by decide +kernel) (by decide +kernel)
theorem lk_Law_41 : Cond.methodLink "SecretWellsLaw" 41 y_Co_secret ∈ gTbl := gt_4 222 (by decide +kernel) (by decide +kernel)
theorem lk_Law_44 : Cond.methodLink "SecretWellsLaw" 44 y_Mo_secret ∈ gTbl := gt_8 73 (by decide +kernel) (by decide +kernel)
theorem lk_Law_45 : Cond.methodLink "SecretWellsLaw" 45 y_Co_tells ∈ gTbl := gt_4 232 (by decide +kernel) (by decide +kernel)
theorem lk_Law_48 : Cond.methodLink "SecretWellsLaw" 48 y_Mo_tells ∈ gTbl := gt_8 81 (by decide +kernel) (by decide +kernel)
theorem lk_Law_49 : Cond.methodLink "SecretWellsLaw" 49 y_Co_days ∈ gTbl := gt_5 12 (by decide +kernel) (by decide +kernel)
theorem lk_Law_52 : Cond.methodLink "SecretWellsLaw" 52 y_Mo_days ∈ gTbl := gt_8 89 (by decide +kernel) (by decide +kernel)
theorem lk_Law_53 : Cond.methodLink "SecretWellsLaw" 53 y_Co_whisper ∈ gTbl := gt_5 56 (by decide +kernel) (by decide +kernel)
theorem lk_Law_57 : Cond.methodLink "SecretWellsLaw" 57 y_Mo_whisper ∈ gTbl := gt_8 125 (by decide +kernel) (by decide +kernel)
theorem lk_Law_58 : Cond.methodLink "SecretWellsLaw" 58 y_Co_tell ∈ gTbl := gt_5 73 (by decide +kernel) (by decide +kernel)
theorem lk_Law_62 : Cond.methodLink "SecretWellsLaw" 62 y_Mo_tell ∈ gTbl := gt_8 137 (by decide +kernel) (by decide +kernel)
theorem lk_Law_63 : Cond.methodLink "SecretWellsLaw" 63 y_Co_drill ∈ gTbl := gt_5 69 (by decide +kernel) (by decide +kernel)
theorem lk_Law_66 : Cond.methodLink "SecretWellsLaw" 66 y_Mo_drill ∈ gTbl := gt_8 133 (by decide +kernel) (by decide +kernel)
theorem lk_Law_67 : Cond.methodLink "SecretWellsLaw" 67 y_Co_go ∈ gTbl := gt_5 77 (by decide +kernel) (by decide +kernel)
theorem lk_Law_71 : Cond.methodLink "SecretWellsLaw" 71 y_Mo_go ∈ gTbl := gt_8 141 (by decide +kernel) (by decide +kernel)
theorem lk_Law_72 : Cond.methodLink "SecretWellsLaw" 72 y_Co_cut ∈ gTbl := gt_5 81 (by decide +kernel) (by decide +kernel)
theorem lk_Law_76 : Cond.methodLink "SecretWellsLaw" 76 y_Mo_cut ∈ gTbl := gt_8 145 (by decide +kernel) (by decide +kernel)
theorem lk_Law_77 : Cond.methodLink "SecretWellsLaw" 77 y_Co_undo ∈ gTbl := gt_5 86 (by decide +kernel) (by decide +kernel)
theorem lk_Law_81 : Cond.methodLink "SecretWellsLaw" 81 y_Mo_undo ∈ gTbl := gt_8 149 (by decide +kernel) (by decide +kernel)
theorem lk_Law_82 : Cond.methodLink "SecretWellsLaw" 82 y_Co_wellIn ∈ gTbl := gt_5 102 (by decide +kernel) (by decide +kernel)
theorem lk_Law_85 : Cond.methodLink "SecretWellsLaw" 85 y_Mo_wellIn ∈ gTbl := gt_8 153 (by decide +kernel) (by decide +kernel)
theorem lk_Law_86 : Cond.methodLink "SecretWellsLaw" 86 y_Co_manIn ∈ gTbl := gt_5 114 (by decide +kernel) (by decide +kernel)
theorem lk_Law_89 : Cond.methodLink "SecretWellsLaw" 89 y_Mo_manIn ∈ gTbl := gt_8 160 (by decide +kernel) (by decide +kernel)
theorem lk_Law_90 : Cond.methodLink "SecretWellsLaw" 90 y_Co_dryBy ∈ gTbl := gt_5 118 (by decide +kernel) (by decide +kernel)
theorem lk_Law_93 : Cond.methodLink "SecretWellsLaw" 93 y_Mo_dryBy ∈ gTbl := gt_8 164 (by decide +kernel) (by decide +kernel)
theorem lk_Law_94 : Cond.methodLink "SecretWellsLaw" 94 y_Co_first ∈ gTbl := gt_5 122 (by decide +kernel) (by decide +kernel)
theorem lk_Law_97 : Cond.methodLink "SecretWellsLaw" 97 y_Mo_first ∈ gTbl := gt_8 168 (by decide +kernel) (by decide +kernel)
theorem lk_Law_98 : Cond.methodLink "SecretWellsLaw" 98 y_Co_rain ∈ gTbl := gt_5 130 (by decide +kernel) (by decide +kernel)
def f_Law_law_b666 (L : Nat) (xs : Nat → Int32) (k18 : Int32 → Mem → Mem → Option (Int32)) (x3 : Int32) (s0 : Int32) (s1 : Int32) (s2 : Int32) (SC SM : Mem) : Option Int32 :=
  Option.bind (f_Mo_cut s1 s0 SM) (fun q666 =>
  if s2 = q666.1 then
    k18 (x3 + 6) SC q666.2
  else
    some 0)
def f_Law_law_b644 (L : Nat) (xs : Nat → Int32) (k18 : Int32 → Mem → Mem → Option (Int32)) (x3 : Int32) (s0 : Int32) (s1 : Int32) (SC SM : Mem) : Option Int32 :=
  Option.bind (f_Co_cut s1 s0 SC) (fun q644 =>
  gIn (x3 + 1) L (
  gIn (x3 + 2) L (
  if (xs (x3 + 2).toNatClampNeg) = 0 then
    f_Law_law_b666 L xs k18 x3 0 (xs (x3 + 1).toNatClampNeg) q644.1 q644.2 SM
  else
    f_Law_law_b666 L xs k18 x3 1 (xs (x3 + 1).toNatClampNeg) q644.1 q644.2 SM)))
def f_Law_law_b1289 (L : Nat) (xs : Nat → Int32) (k18 : Int32 → Mem → Mem → Option (Int32)) (x3 : Int32) (s0 : Int32) (s1 : Int32) (s2 : Int32) (SC SM : Mem) : Option Int32 :=
  Option.bind (f_Mo_sure s1 s0 SM) (fun q1289 =>
  if s2 = q1289 then
    k18 (x3 + 6) SC SM
  else
    some 0)
def f_Law_law_b1267 (L : Nat) (xs : Nat → Int32) (k18 : Int32 → Mem → Mem → Option (Int32)) (x3 : Int32) (s0 : Int32) (s1 : Int32) (SC SM : Mem) : Option Int32 :=
  Option.bind (f_Co_sure s1 s0 SC) (fun q1267 =>
  gIn (x3 + 1) L (
  gIn (x3 + 2) L (
  if (xs (x3 + 2).toNatClampNeg) = 0 then
    f_Law_law_b1289 L xs k18 x3 0 (xs (x3 + 1).toNatClampNeg) q1267 SC SM
  else
    f_Law_law_b1289 L xs k18 x3 1 (xs (x3 + 1).toNatClampNeg) q1267 SC SM)))
def f_Law_law_b18 (L : Nat) (xs : Nat → Int32) (k18 : Int32 → Mem → Mem → Option (Int32)) (x3 : Int32) (SC SM : Mem) : Option Int32 :=
  if ((Int32.ofNat L) - 6) < x3 then
    some 1
  else
    gIn x3 L (
    if ((xs x3.toNatClampNeg) &&& 63) = 0 then
      gIn (x3 + 1) L (
      gIn (x3 + 2) L (
      gIn (x3 + 3) L (
      gIn (x3 + 4) L (
      gIn (x3 + 5) L (
      Option.bind (f_Co_feed (xs (x3 + 1).toNatClampNeg) (xs (x3 + 2).toNatClampNeg) (xs (x3 + 3).toNatClampNeg) (xs (x3 + 4).toNatClampNeg) (xs (x3 + 5).toNatClampNeg) SC) (fun q222 =>
      gIn (x3 + 1) L (
      gIn (x3 + 2) L (
      gIn (x3 + 3) L (
      gIn (x3 + 4) L (
      gIn (x3 + 5) L (
      Option.bind (f_Mo_feed (xs (x3 + 1).toNatClampNeg) (xs (x3 + 2).toNatClampNeg) (xs (x3 + 3).toNatClampNeg) (xs (x3 + 4).toNatClampNeg) (xs (x3 + 5).toNatClampNeg) SM) (fun q251 =>
      if q222.1 = q251.1 then
        k18 (x3 + 6) q222.2 q251.2
      else
        some 0))))))))))))
    else if ((xs x3.toNatClampNeg) &&& 63) = 1 then
      gIn (x3 + 1) L (
      Option.bind (f_Co_back (xs (x3 + 1).toNatClampNeg) SC) (fun q265 =>
      gIn (x3 + 1) L (
      Option.bind (f_Mo_back (xs (x3 + 1).toNatClampNeg) SM) (fun q274 =>
      if q265.1 = q274.1 then
        k18 (x3 + 6) q265.2 q274.2
      else
        some 0))))
    else if ((xs x3.toNatClampNeg) &&& 63) = 2 then
      Option.bind (f_Co_read SC) (fun q283 =>
      Option.bind (f_Mo_read SM) (fun q287 =>
      if q283.1 = q287.1 then
        k18 (x3 + 6) q283.2 q287.2
      else
        some 0))
    else if ((xs x3.toNatClampNeg) &&& 63) = 3 then
      Option.bind (f_Co_place SC) (fun q296 =>
      Option.bind (f_Mo_place SM) (fun q300 =>
      if q296 = q300 then
        k18 (x3 + 6) SC SM
      else
        some 0))
    else if ((xs x3.toNatClampNeg) &&& 63) = 4 then
      gIn (x3 + 1) L (
      gIn (x3 + 2) L (
      Option.bind (f_Co_well (xs (x3 + 1).toNatClampNeg) (xs (x3 + 2).toNatClampNeg) SC) (fun q319 =>
      gIn (x3 + 1) L (
      gIn (x3 + 2) L (
      Option.bind (f_Mo_well (xs (x3 + 1).toNatClampNeg) (xs (x3 + 2).toNatClampNeg) SM) (fun q333 =>
      if q319.1 = q333.1 then
        k18 (x3 + 6) q319.2 q333.2
      else
        some 0))))))
    else if ((xs x3.toNatClampNeg) &&& 63) = 5 then
      gIn (x3 + 1) L (
      gIn (x3 + 2) L (
      Option.bind (f_Co_man (xs (x3 + 1).toNatClampNeg) (xs (x3 + 2).toNatClampNeg) SC) (fun q352 =>
      gIn (x3 + 1) L (
      gIn (x3 + 2) L (
      Option.bind (f_Mo_man (xs (x3 + 1).toNatClampNeg) (xs (x3 + 2).toNatClampNeg) SM) (fun q366 =>
      if q352.1 = q366.1 then
        k18 (x3 + 6) q352.2 q366.2
      else
        some 0))))))
    else if ((xs x3.toNatClampNeg) &&& 63) = 6 then
      gIn (x3 + 1) L (
      gIn (x3 + 2) L (
      Option.bind (f_Co_secret (xs (x3 + 1).toNatClampNeg) (xs (x3 + 2).toNatClampNeg) SC) (fun q385 =>
      gIn (x3 + 1) L (
      gIn (x3 + 2) L (
      Option.bind (f_Mo_secret (xs (x3 + 1).toNatClampNeg) (xs (x3 + 2).toNatClampNeg) SM) (fun q399 =>
      if q385 = q399.1 then
        k18 (x3 + 6) SC q399.2
      else
        some 0))))))
    else if ((xs x3.toNatClampNeg) &&& 63) = 7 then
      gIn (x3 + 1) L (
      gIn (x3 + 2) L (
      Option.bind (f_Co_tells (xs (x3 + 1).toNatClampNeg) (xs (x3 + 2).toNatClampNeg) SC) (fun q418 =>
      gIn (x3 + 1) L (
      gIn (x3 + 2) L (
      Option.bind (f_Mo_tells (xs (x3 + 1).toNatClampNeg) (xs (x3 + 2).toNatClampNeg) SM) (fun q432 =>
      if q418.1 = q432.1 then
        k18 (x3 + 6) q418.2 q432.2
      else
        some 0))))))
    else if ((xs x3.toNatClampNeg) &&& 63) = 8 then
      gIn (x3 + 1) L (
      Option.bind (f_Co_days (xs (x3 + 1).toNatClampNeg) SC) (fun q446 =>
      gIn (x3 + 1) L (
      Option.bind (f_Mo_days (xs (x3 + 1).toNatClampNeg) SM) (fun q455 =>
      if q446.1 = q455.1 then
        k18 (x3 + 6) q446.2 q455.2
      else
        some 0))))
    else if ((xs x3.toNatClampNeg) &&& 63) = 9 then
      gIn (x3 + 1) L (
      gIn (x3 + 2) L (
      gIn (x3 + 3) L (
      Option.bind (f_Co_whisper (xs (x3 + 1).toNatClampNeg) (xs (x3 + 2).toNatClampNeg) (xs (x3 + 3).toNatClampNeg) SC) (fun q479 =>
      gIn (x3 + 1) L (
      gIn (x3 + 2) L (
      gIn (x3 + 3) L (
      Option.bind (f_Mo_whisper (xs (x3 + 1).toNatClampNeg) (xs (x3 + 2).toNatClampNeg) (xs (x3 + 3).toNatClampNeg) SM) (fun q498 =>
      if q479.1 = q498.1 then
        k18 (x3 + 6) q479.2 q498.2
      else
        some 0))))))))
    else if ((xs x3.toNatClampNeg) &&& 63) = 10 then
      gIn (x3 + 1) L (
      gIn (x3 + 2) L (
      gIn (x3 + 3) L (
      Option.bind (f_Co_tell (xs (x3 + 1).toNatClampNeg) (xs (x3 + 2).toNatClampNeg) (xs (x3 + 3).toNatClampNeg) SC) (fun q522 =>
      gIn (x3 + 1) L (
      gIn (x3 + 2) L (
      gIn (x3 + 3) L (
      Option.bind (f_Mo_tell (xs (x3 + 1).toNatClampNeg) (xs (x3 + 2).toNatClampNeg) (xs (x3 + 3).toNatClampNeg) SM) (fun q541 =>
      if q522.1 = q541.1 then
        k18 (x3 + 6) q522.2 q541.2
      else
        some 0))))))))
    else if ((xs x3.toNatClampNeg) &&& 63) = 11 then
      gIn (x3 + 1) L (
      gIn (x3 + 2) L (
      gIn (x3 + 3) L (
      Option.bind (f_Co_drill (xs (x3 + 1).toNatClampNeg) (xs (x3 + 2).toNatClampNeg) (xs (x3 + 3).toNatClampNeg) SC) (fun q565 =>
      gIn (x3 + 1) L (
      gIn (x3 + 2) L (
      gIn (x3 + 3) L (
      Option.bind (f_Mo_drill (xs (x3 + 1).toNatClampNeg) (xs (x3 + 2).toNatClampNeg) (xs (x3 + 3).toNatClampNeg) SM) (fun q584 =>
      if q565.1 = q584.1 then
        k18 (x3 + 6) q565.2 q584.2
      else
        some 0))))))))
    else if ((xs x3.toNatClampNeg) &&& 63) = 12 then
      gIn (x3 + 1) L (
      gIn (x3 + 2) L (
      Option.bind (f_Co_go (xs (x3 + 1).toNatClampNeg) (xs (x3 + 2).toNatClampNeg) SC) (fun q603 =>
      gIn (x3 + 1) L (
      gIn (x3 + 2) L (
      Option.bind (f_Mo_go (xs (x3 + 1).toNatClampNeg) (xs (x3 + 2).toNatClampNeg) SM) (fun q617 =>
      if q603.1 = q617.1 then
        k18 (x3 + 6) q603.2 q617.2
      else
        some 0))))))
    else if ((xs x3.toNatClampNeg) &&& 63) = 13 then
      gIn (x3 + 1) L (
      gIn (x3 + 2) L (
      if (xs (x3 + 2).toNatClampNeg) = 0 then
        f_Law_law_b644 L xs k18 x3 0 (xs (x3 + 1).toNatClampNeg) SC SM
      else
        f_Law_law_b644 L xs k18 x3 1 (xs (x3 + 1).toNatClampNeg) SC SM))
    else if ((xs x3.toNatClampNeg) &&& 63) = 14 then
      Option.bind (f_Co_undo SC) (fun q675 =>
      Option.bind (f_Mo_undo SM) (fun q679 =>
      if q675.1 = q679.1 then
        k18 (x3 + 6) q675.2 q679.2
      else
        some 0))
    else if ((xs x3.toNatClampNeg) &&& 63) = 15 then
      gIn (x3 + 1) L (
      gIn (x3 + 2) L (
      gIn (x3 + 3) L (
      Option.bind (f_Co_wellIn (xs (x3 + 1).toNatClampNeg) (xs (x3 + 2).toNatClampNeg) (xs (x3 + 3).toNatClampNeg) SC) (fun q703 =>
      gIn (x3 + 1) L (
      gIn (x3 + 2) L (
      gIn (x3 + 3) L (
      Option.bind (f_Mo_wellIn (xs (x3 + 1).toNatClampNeg) (xs (x3 + 2).toNatClampNeg) (xs (x3 + 3).toNatClampNeg) SM) (fun q722 =>
      if q703.1 = q722.1 then
        k18 (x3 + 6) q703.2 q722.2
      else
        some 0))))))))
    else if ((xs x3.toNatClampNeg) &&& 63) = 16 then
      gIn (x3 + 1) L (
      gIn (x3 + 2) L (
      gIn (x3 + 3) L (
      Option.bind (f_Co_manIn (xs (x3 + 1).toNatClampNeg) (xs (x3 + 2).toNatClampNeg) (xs (x3 + 3).toNatClampNeg) SC) (fun q746 =>
      gIn (x3 + 1) L (
      gIn (x3 + 2) L (
      gIn (x3 + 3) L (
      Option.bind (f_Mo_manIn (xs (x3 + 1).toNatClampNeg) (xs (x3 + 2).toNatClampNeg) (xs (x3 + 3).toNatClampNeg) SM) (fun q765 =>
      if q746.1 = q765.1 then
        k18 (x3 + 6) q746.2 q765.2
      else
        some 0))))))))
    else if ((xs x3.toNatClampNeg) &&& 63) = 17 then
      gIn (x3 + 1) L (
      Option.bind (f_Co_dryBy (xs (x3 + 1).toNatClampNeg) SC) (fun q779 =>
      gIn (x3 + 1) L (
      Option.bind (f_Mo_dryBy (xs (x3 + 1).toNatClampNeg) SM) (fun q788 =>
      if q779.1 = q788.1 then
        k18 (x3 + 6) q779.2 q788.2
      else
        some 0))))
    else if ((xs x3.toNatClampNeg) &&& 63) = 18 then
      gIn (x3 + 1) L (
      Option.bind (f_Co_first (xs (x3 + 1).toNatClampNeg) SC) (fun q802 =>
      gIn (x3 + 1) L (
      Option.bind (f_Mo_first (xs (x3 + 1).toNatClampNeg) SM) (fun q811 =>
      if q802.1 = q811.1 then
        k18 (x3 + 6) q802.2 q811.2
      else
        some 0))))
    else if ((xs x3.toNatClampNeg) &&& 63) = 19 then
      gIn (x3 + 1) L (
      gIn (x3 + 2) L (
      gIn (x3 + 3) L (
      Option.bind (f_Co_rain (xs (x3 + 1).toNatClampNeg) (xs (x3 + 2).toNatClampNeg) (xs (x3 + 3).toNatClampNeg) SC) (fun q835 =>
      gIn (x3 + 1) L (
      gIn (x3 + 2) L (
      gIn (x3 + 3) L (
      Option.bind (f_Mo_rain (xs (x3 + 1).toNatClampNeg) (xs (x3 + 2).toNatClampNeg) (xs (x3 + 3).toNatClampNeg) SM) (fun q854 =>
      if q835.1 = q854.1 then
        k18 (x3 + 6) q835.2 q854.2
      else
        some 0))))))))
    else if ((xs x3.toNatClampNeg) &&& 63) = 20 then
      gIn (x3 + 1) L (
      gIn (x3 + 2) L (
      gIn (x3 + 3) L (
      Option.bind (f_Co_rainAt (xs (x3 + 1).toNatClampNeg) (xs (x3 + 2).toNatClampNeg) (xs (x3 + 3).toNatClampNeg) SC) (fun q878 =>
      gIn (x3 + 1) L (
      gIn (x3 + 2) L (
      gIn (x3 + 3) L (
      Option.bind (f_Mo_rainAt (xs (x3 + 1).toNatClampNeg) (xs (x3 + 2).toNatClampNeg) (xs (x3 + 3).toNatClampNeg) SM) (fun q897 =>
      if q878.1 = q897.1 then
        k18 (x3 + 6) q878.2 q897.2
      else
        some 0))))))))
    else if ((xs x3.toNatClampNeg) &&& 63) = 21 then
      gIn (x3 + 1) L (
      gIn (x3 + 2) L (
      gIn (x3 + 3) L (
      Option.bind (f_Co_silence (xs (x3 + 1).toNatClampNeg) (xs (x3 + 2).toNatClampNeg) (xs (x3 + 3).toNatClampNeg) SC) (fun q921 =>
      gIn (x3 + 1) L (
      gIn (x3 + 2) L (
      gIn (x3 + 3) L (
      Option.bind (f_Mo_silence (xs (x3 + 1).toNatClampNeg) (xs (x3 + 2).toNatClampNeg) (xs (x3 + 3).toNatClampNeg) SM) (fun q940 =>
      if q921 = q940.1 then
        k18 (x3 + 6) SC q940.2
      else
        some 0))))))))
    else if ((xs x3.toNatClampNeg) &&& 63) = 22 then
      gIn (x3 + 1) L (
      Option.bind (f_Co_reach (xs (x3 + 1).toNatClampNeg) SC) (fun q954 =>
      gIn (x3 + 1) L (
      Option.bind (f_Mo_reach (xs (x3 + 1).toNatClampNeg) SM) (fun q963 =>
      if q954 = q963.1 then
        k18 (x3 + 6) SC q963.2
      else
        some 0))))
    else if ((xs x3.toNatClampNeg) &&& 63) = 23 then
      gIn (x3 + 1) L (
      gIn (x3 + 2) L (
      Option.bind (f_Co_holds (xs (x3 + 1).toNatClampNeg) (xs (x3 + 2).toNatClampNeg) SC) (fun q982 =>
      gIn (x3 + 1) L (
      gIn (x3 + 2) L (
      Option.bind (f_Mo_holds (xs (x3 + 1).toNatClampNeg) (xs (x3 + 2).toNatClampNeg) SM) (fun q996 =>
      if q982 = q996.1 then
        k18 (x3 + 6) SC q996.2
      else
        some 0))))))
    else if ((xs x3.toNatClampNeg) &&& 63) = 24 then
      Option.bind (f_Co_rings SC) (fun q1005 =>
      Option.bind (f_Mo_rings SM) (fun q1009 =>
      if q1005 = q1009.1 then
        k18 (x3 + 6) SC q1009.2
      else
        some 0))
    else if ((xs x3.toNatClampNeg) &&& 63) = 25 then
      gIn (x3 + 1) L (
      gIn (x3 + 2) L (
      Option.bind (f_Co_quiet (xs (x3 + 1).toNatClampNeg) (xs (x3 + 2).toNatClampNeg) SC) (fun q1028 =>
      gIn (x3 + 1) L (
      gIn (x3 + 2) L (
      Option.bind (f_Mo_quiet (xs (x3 + 1).toNatClampNeg) (xs (x3 + 2).toNatClampNeg) SM) (fun q1042 =>
      if q1028.1 = q1042.1 then
        k18 (x3 + 6) q1028.2 q1042.2
      else
        some 0))))))
    else if ((xs x3.toNatClampNeg) &&& 63) = 26 then
      gIn (x3 + 1) L (
      gIn (x3 + 2) L (
      gIn (x3 + 3) L (
      gIn (x3 + 4) L (
      Option.bind (f_Co_odds (xs (x3 + 1).toNatClampNeg) (xs (x3 + 2).toNatClampNeg) (xs (x3 + 3).toNatClampNeg) (xs (x3 + 4).toNatClampNeg) SC) (fun q1071 =>
      gIn (x3 + 1) L (
      gIn (x3 + 2) L (
      gIn (x3 + 3) L (
      gIn (x3 + 4) L (
      Option.bind (f_Mo_odds (xs (x3 + 1).toNatClampNeg) (xs (x3 + 2).toNatClampNeg) (xs (x3 + 3).toNatClampNeg) (xs (x3 + 4).toNatClampNeg) SM) (fun q1095 =>
      if q1071.1 = q1095.1 then
        k18 (x3 + 6) q1071.2 q1095.2
      else
        some 0))))))))))
    else if ((xs x3.toNatClampNeg) &&& 63) = 27 then
      gIn (x3 + 1) L (
      gIn (x3 + 2) L (
      Option.bind (f_Co_deaths (xs (x3 + 1).toNatClampNeg) (xs (x3 + 2).toNatClampNeg) SC) (fun q1114 =>
      gIn (x3 + 1) L (
      gIn (x3 + 2) L (
      Option.bind (f_Mo_deaths (xs (x3 + 1).toNatClampNeg) (xs (x3 + 2).toNatClampNeg) SM) (fun q1128 =>
      if q1114.1 = q1128.1 then
        k18 (x3 + 6) q1114.2 q1128.2
      else
        some 0))))))
    else if ((xs x3.toNatClampNeg) &&& 63) = 28 then
      gIn (x3 + 1) L (
      Option.bind (f_Co_worth (xs (x3 + 1).toNatClampNeg) SC) (fun q1142 =>
      gIn (x3 + 1) L (
      Option.bind (f_Mo_worth (xs (x3 + 1).toNatClampNeg) SM) (fun q1151 =>
      if q1142 = q1151.1 then
        k18 (x3 + 6) SC q1151.2
      else
        some 0))))
    else if ((xs x3.toNatClampNeg) &&& 63) = 29 then
      gIn (x3 + 1) L (
      gIn (x3 + 2) L (
      gIn (x3 + 3) L (
      Option.bind (f_Co_note (xs (x3 + 1).toNatClampNeg) (xs (x3 + 2).toNatClampNeg) (xs (x3 + 3).toNatClampNeg) SC) (fun q1175 =>
      gIn (x3 + 1) L (
      gIn (x3 + 2) L (
      gIn (x3 + 3) L (
      Option.bind (f_Mo_note (xs (x3 + 1).toNatClampNeg) (xs (x3 + 2).toNatClampNeg) (xs (x3 + 3).toNatClampNeg) SM) (fun q1194 =>
      if q1175.1 = q1194.1 then
        k18 (x3 + 6) q1175.2 q1194.2
      else
        some 0))))))))
    else if ((xs x3.toNatClampNeg) &&& 63) = 30 then
      Option.bind (f_Co_forget SC) (fun q1203 =>
      Option.bind (f_Mo_forget SM) (fun q1207 =>
      if q1203.1 = q1207.1 then
        k18 (x3 + 6) q1203.2 q1207.2
      else
        some 0))
    else if ((xs x3.toNatClampNeg) &&& 63) = 31 then
      gIn (x3 + 1) L (
      gIn (x3 + 2) L (
      Option.bind (f_Co_truth (xs (x3 + 1).toNatClampNeg) (xs (x3 + 2).toNatClampNeg) SC) (fun q1226 =>
      gIn (x3 + 1) L (
      gIn (x3 + 2) L (
      Option.bind (f_Mo_truth (xs (x3 + 1).toNatClampNeg) (xs (x3 + 2).toNatClampNeg) SM) (fun q1240 =>
      if q1226 = q1240 then
        k18 (x3 + 6) SC SM
      else
        some 0))))))
    else if ((xs x3.toNatClampNeg) &&& 63) = 32 then
      gIn (x3 + 1) L (
      gIn (x3 + 2) L (
      if (xs (x3 + 2).toNatClampNeg) = 0 then
        f_Law_law_b1267 L xs k18 x3 0 (xs (x3 + 1).toNatClampNeg) SC SM
      else
        f_Law_law_b1267 L xs k18 x3 1 (xs (x3 + 1).toNatClampNeg) SC SM))
    else if ((xs x3.toNatClampNeg) &&& 63) = 33 then
      gIn (x3 + 1) L (
      gIn (x3 + 2) L (
      Option.bind (f_Co_next (xs (x3 + 1).toNatClampNeg) (xs (x3 + 2).toNatClampNeg) SC) (fun q1308 =>
      gIn (x3 + 1) L (
      gIn (x3 + 2) L (
      Option.bind (f_Mo_next (xs (x3 + 1).toNatClampNeg) (xs (x3 + 2).toNatClampNeg) SM) (fun q1322 =>
      if q1308.1 = q1322 then
        k18 (x3 + 6) q1308.2 SM
      else
        some 0))))))
    else if ((xs x3.toNatClampNeg) &&& 63) = 34 then
      gIn (x3 + 1) L (
      Option.bind (f_Co_hold (xs (x3 + 1).toNatClampNeg) SC) (fun q1336 =>
      gIn (x3 + 1) L (
      Option.bind (f_Mo_hold (xs (x3 + 1).toNatClampNeg) SM) (fun q1345 =>
      if q1336.1 = q1345.1 then
        k18 (x3 + 6) q1336.2 q1345.2
      else
        some 0))))
    else if ((xs x3.toNatClampNeg) &&& 63) = 35 then
      gIn (x3 + 1) L (
      Option.bind (f_Co_restore (xs (x3 + 1).toNatClampNeg) SC) (fun q1359 =>
      gIn (x3 + 1) L (
      Option.bind (f_Mo_restore (xs (x3 + 1).toNatClampNeg) SM) (fun q1368 =>
      if q1359.1 = q1368.1 then
        k18 (x3 + 6) q1359.2 q1368.2
      else
        some 0))))
    else if ((xs x3.toNatClampNeg) &&& 63) = 36 then
      gIn (x3 + 1) L (
      Option.bind (f_Co_count (xs (x3 + 1).toNatClampNeg) SC) (fun q1382 =>
      gIn (x3 + 1) L (
      Option.bind (f_Mo_count (xs (x3 + 1).toNatClampNeg) SM) (fun q1391 =>
      if q1382 = q1391 then
        k18 (x3 + 6) SC SM
      else
        some 0))))
    else 
      k18 (x3 + 6) SC SM)
def f_Law_law_l18 (L : Nat) (xs : Nat → Int32) : Nat → Int32 → Mem → Mem → Option (Int32)
  | 0 => fun _ _ _ => none
  | n + 1 => f_Law_law_b18 L xs (f_Law_law_l18 L xs n)
theorem d_Law_law_0 : decode code 0 = .ok (.new 7, 3) := by decide +kernel
theorem d_Law_law_3 : decode code 3 = .ok (.dup, 1) := by decide +kernel
theorem d_Law_law_4 : decode code 4 = .ok (.invokespecial 9, 3) := by decide +kernel
theorem d_Law_law_7 : decode code 7 = .ok (.astore_n 1, 1) := by decide +kernel
theorem d_Law_law_8 : decode code 8 = .ok (.new 10, 3) := by decide +kernel
theorem d_Law_law_11 : decode code 11 = .ok (.dup, 1) := by decide +kernel
theorem d_Law_law_12 : decode code 12 = .ok (.invokespecial 12, 3) := by decide +kernel
theorem d_Law_law_15 : decode code 15 = .ok (.astore_n 2, 1) := by decide +kernel
theorem d_Law_law_16 : decode code 16 = .ok (.iconst 0, 1) := by decide +kernel
theorem d_Law_law_17 : decode code 17 = .ok (.istore_n 3, 1) := by decide +kernel
theorem d_Law_law_18 : decode code 18 = .ok (.iload_n 3, 1) := by decide +kernel
theorem d_Law_law_19 : decode code 19 = .ok (.aload_n 0, 1) := by decide +kernel
theorem d_Law_law_20 : decode code 20 = .ok (.arraylength, 1) := by decide +kernel
theorem d_Law_law_21 : decode code 21 = .ok (.bipush 6, 2) := by decide +kernel
theorem d_Law_law_23 : decode code 23 = .ok (.isub, 1) := by decide +kernel
theorem d_Law_law_24 : decode code 24 = .ok (.if_icmp .gt 1381, 3) := by decide +kernel
theorem d_Law_law_27 : decode code 27 = .ok (.aload_n 0, 1) := by decide +kernel
theorem d_Law_law_28 : decode code 28 = .ok (.iload_n 3, 1) := by decide +kernel
theorem d_Law_law_29 : decode code 29 = .ok (.iaload, 1) := by decide +kernel
theorem d_Law_law_30 : decode code 30 = .ok (.bipush 63, 2) := by decide +kernel
theorem d_Law_law_32 : decode code 32 = .ok (.iand, 1) := by decide +kernel
theorem d_Law_law_33 : decode code 33 = .ok (.tableswitch 1366 0 36 #[163, 226, 249, 262, 275, 308, 341, 374, 407, 430, 473, 516, 559, 592, 641, 654, 697, 740, 763, 786, 829, 872, 915, 938, 971, 984, 1017, 1070, 1103, 1126, 1169, 1182, 1215, 1264, 1297, 1320, 1343], 163) := by decide +kernel
theorem d_Law_law_196 : decode code 196 = .ok (.aload_n 1, 1) := by decide +kernel
theorem d_Law_law_197 : decode code 197 = .ok (.aload_n 0, 1) := by decide +kernel
theorem d_Law_law_198 : decode code 198 = .ok (.iload_n 3, 1) := by decide +kernel
theorem d_Law_law_199 : decode code 199 = .ok (.iconst 1, 1) := by decide +kernel
theorem d_Law_law_200 : decode code 200 = .ok (.iadd, 1) := by decide +kernel
theorem d_Law_law_201 : decode code 201 = .ok (.iaload, 1) := by decide +kernel
theorem d_Law_law_202 : decode code 202 = .ok (.aload_n 0, 1) := by decide +kernel
theorem d_Law_law_203 : decode code 203 = .ok (.iload_n 3, 1) := by decide +kernel
theorem d_Law_law_204 : decode code 204 = .ok (.iconst 2, 1) := by decide +kernel
theorem d_Law_law_205 : decode code 205 = .ok (.iadd, 1) := by decide +kernel
theorem d_Law_law_206 : decode code 206 = .ok (.iaload, 1) := by decide +kernel
theorem d_Law_law_207 : decode code 207 = .ok (.aload_n 0, 1) := by decide +kernel
theorem d_Law_law_208 : decode code 208 = .ok (.iload_n 3, 1) := by decide +kernel
theorem d_Law_law_209 : decode code 209 = .ok (.iconst 3, 1) := by decide +kernel
theorem d_Law_law_210 : decode code 210 = .ok (.iadd, 1) := by decide +kernel
theorem d_Law_law_211 : decode code 211 = .ok (.iaload, 1) := by decide +kernel
theorem d_Law_law_212 : decode code 212 = .ok (.aload_n 0, 1) := by decide +kernel
theorem d_Law_law_213 : decode code 213 = .ok (.iload_n 3, 1) := by decide +kernel
theorem d_Law_law_214 : decode code 214 = .ok (.iconst 4, 1) := by decide +kernel
theorem d_Law_law_215 : decode code 215 = .ok (.iadd, 1) := by decide +kernel
theorem d_Law_law_216 : decode code 216 = .ok (.iaload, 1) := by decide +kernel
theorem d_Law_law_217 : decode code 217 = .ok (.aload_n 0, 1) := by decide +kernel
theorem d_Law_law_218 : decode code 218 = .ok (.iload_n 3, 1) := by decide +kernel
theorem d_Law_law_219 : decode code 219 = .ok (.iconst 5, 1) := by decide +kernel
theorem d_Law_law_220 : decode code 220 = .ok (.iadd, 1) := by decide +kernel
theorem d_Law_law_221 : decode code 221 = .ok (.iaload, 1) := by decide +kernel
theorem d_Law_law_222 : decode code 222 = .ok (.invokevirtual 13, 3) := by decide +kernel
theorem d_Law_law_225 : decode code 225 = .ok (.aload_n 2, 1) := by decide +kernel
theorem d_Law_law_226 : decode code 226 = .ok (.aload_n 0, 1) := by decide +kernel
theorem d_Law_law_227 : decode code 227 = .ok (.iload_n 3, 1) := by decide +kernel
theorem d_Law_law_228 : decode code 228 = .ok (.iconst 1, 1) := by decide +kernel
theorem d_Law_law_229 : decode code 229 = .ok (.iadd, 1) := by decide +kernel
theorem d_Law_law_230 : decode code 230 = .ok (.iaload, 1) := by decide +kernel
theorem d_Law_law_231 : decode code 231 = .ok (.aload_n 0, 1) := by decide +kernel
theorem d_Law_law_232 : decode code 232 = .ok (.iload_n 3, 1) := by decide +kernel
theorem d_Law_law_233 : decode code 233 = .ok (.iconst 2, 1) := by decide +kernel
theorem d_Law_law_234 : decode code 234 = .ok (.iadd, 1) := by decide +kernel
theorem d_Law_law_235 : decode code 235 = .ok (.iaload, 1) := by decide +kernel
theorem d_Law_law_236 : decode code 236 = .ok (.aload_n 0, 1) := by decide +kernel
theorem d_Law_law_237 : decode code 237 = .ok (.iload_n 3, 1) := by decide +kernel
theorem d_Law_law_238 : decode code 238 = .ok (.iconst 3, 1) := by decide +kernel
theorem d_Law_law_239 : decode code 239 = .ok (.iadd, 1) := by decide +kernel
theorem d_Law_law_240 : decode code 240 = .ok (.iaload, 1) := by decide +kernel
theorem d_Law_law_241 : decode code 241 = .ok (.aload_n 0, 1) := by decide +kernel
theorem d_Law_law_242 : decode code 242 = .ok (.iload_n 3, 1) := by decide +kernel
theorem d_Law_law_243 : decode code 243 = .ok (.iconst 4, 1) := by decide +kernel
theorem d_Law_law_244 : decode code 244 = .ok (.iadd, 1) := by decide +kernel
theorem d_Law_law_245 : decode code 245 = .ok (.iaload, 1) := by decide +kernel
theorem d_Law_law_246 : decode code 246 = .ok (.aload_n 0, 1) := by decide +kernel
theorem d_Law_law_247 : decode code 247 = .ok (.iload_n 3, 1) := by decide +kernel
theorem d_Law_law_248 : decode code 248 = .ok (.iconst 5, 1) := by decide +kernel
theorem d_Law_law_249 : decode code 249 = .ok (.iadd, 1) := by decide +kernel
theorem d_Law_law_250 : decode code 250 = .ok (.iaload, 1) := by decide +kernel
theorem d_Law_law_251 : decode code 251 = .ok (.invokevirtual 17, 3) := by decide +kernel
theorem d_Law_law_254 : decode code 254 = .ok (.if_icmp .eq 1145, 3) := by decide +kernel
theorem d_Law_law_257 : decode code 257 = .ok (.iconst 0, 1) := by decide +kernel
theorem d_Law_law_258 : decode code 258 = .ok (.ireturn, 1) := by decide +kernel
theorem d_Law_law_259 : decode code 259 = .ok (.aload_n 1, 1) := by decide +kernel
theorem d_Law_law_260 : decode code 260 = .ok (.aload_n 0, 1) := by decide +kernel
theorem d_Law_law_261 : decode code 261 = .ok (.iload_n 3, 1) := by decide +kernel
theorem d_Law_law_262 : decode code 262 = .ok (.iconst 1, 1) := by decide +kernel
theorem d_Law_law_263 : decode code 263 = .ok (.iadd, 1) := by decide +kernel
theorem d_Law_law_264 : decode code 264 = .ok (.iaload, 1) := by decide +kernel
theorem d_Law_law_265 : decode code 265 = .ok (.invokevirtual 18, 3) := by decide +kernel
theorem d_Law_law_268 : decode code 268 = .ok (.aload_n 2, 1) := by decide +kernel
theorem d_Law_law_269 : decode code 269 = .ok (.aload_n 0, 1) := by decide +kernel
theorem d_Law_law_270 : decode code 270 = .ok (.iload_n 3, 1) := by decide +kernel
theorem d_Law_law_271 : decode code 271 = .ok (.iconst 1, 1) := by decide +kernel
theorem d_Law_law_272 : decode code 272 = .ok (.iadd, 1) := by decide +kernel
theorem d_Law_law_273 : decode code 273 = .ok (.iaload, 1) := by decide +kernel
theorem d_Law_law_274 : decode code 274 = .ok (.invokevirtual 22, 3) := by decide +kernel
theorem d_Law_law_277 : decode code 277 = .ok (.if_icmp .eq 1122, 3) := by decide +kernel
theorem d_Law_law_280 : decode code 280 = .ok (.iconst 0, 1) := by decide +kernel
theorem d_Law_law_281 : decode code 281 = .ok (.ireturn, 1) := by decide +kernel
theorem d_Law_law_282 : decode code 282 = .ok (.aload_n 1, 1) := by decide +kernel
theorem d_Law_law_283 : decode code 283 = .ok (.invokevirtual 23, 3) := by decide +kernel
theorem d_Law_law_286 : decode code 286 = .ok (.aload_n 2, 1) := by decide +kernel
theorem d_Law_law_287 : decode code 287 = .ok (.invokevirtual 27, 3) := by decide +kernel
theorem d_Law_law_290 : decode code 290 = .ok (.if_icmp .eq 1109, 3) := by decide +kernel
theorem d_Law_law_293 : decode code 293 = .ok (.iconst 0, 1) := by decide +kernel
theorem d_Law_law_294 : decode code 294 = .ok (.ireturn, 1) := by decide +kernel
theorem d_Law_law_295 : decode code 295 = .ok (.aload_n 1, 1) := by decide +kernel
theorem d_Law_law_296 : decode code 296 = .ok (.invokevirtual 28, 3) := by decide +kernel
theorem d_Law_law_299 : decode code 299 = .ok (.aload_n 2, 1) := by decide +kernel
theorem d_Law_law_300 : decode code 300 = .ok (.invokevirtual 31, 3) := by decide +kernel
theorem d_Law_law_303 : decode code 303 = .ok (.if_icmp .eq 1096, 3) := by decide +kernel
theorem d_Law_law_306 : decode code 306 = .ok (.iconst 0, 1) := by decide +kernel
theorem d_Law_law_307 : decode code 307 = .ok (.ireturn, 1) := by decide +kernel
theorem d_Law_law_308 : decode code 308 = .ok (.aload_n 1, 1) := by decide +kernel
theorem d_Law_law_309 : decode code 309 = .ok (.aload_n 0, 1) := by decide +kernel
theorem d_Law_law_310 : decode code 310 = .ok (.iload_n 3, 1) := by decide +kernel
theorem d_Law_law_311 : decode code 311 = .ok (.iconst 1, 1) := by decide +kernel
theorem d_Law_law_312 : decode code 312 = .ok (.iadd, 1) := by decide +kernel
theorem d_Law_law_313 : decode code 313 = .ok (.iaload, 1) := by decide +kernel
theorem d_Law_law_314 : decode code 314 = .ok (.aload_n 0, 1) := by decide +kernel
theorem d_Law_law_315 : decode code 315 = .ok (.iload_n 3, 1) := by decide +kernel
theorem d_Law_law_316 : decode code 316 = .ok (.iconst 2, 1) := by decide +kernel
theorem d_Law_law_317 : decode code 317 = .ok (.iadd, 1) := by decide +kernel
theorem d_Law_law_318 : decode code 318 = .ok (.iaload, 1) := by decide +kernel
theorem d_Law_law_319 : decode code 319 = .ok (.invokevirtual 32, 3) := by decide +kernel
theorem d_Law_law_322 : decode code 322 = .ok (.aload_n 2, 1) := by decide +kernel
theorem d_Law_law_323 : decode code 323 = .ok (.aload_n 0, 1) := by decide +kernel
theorem d_Law_law_324 : decode code 324 = .ok (.iload_n 3, 1) := by decide +kernel
theorem d_Law_law_325 : decode code 325 = .ok (.iconst 1, 1) := by decide +kernel
theorem d_Law_law_326 : decode code 326 = .ok (.iadd, 1) := by decide +kernel
theorem d_Law_law_327 : decode code 327 = .ok (.iaload, 1) := by decide +kernel
theorem d_Law_law_328 : decode code 328 = .ok (.aload_n 0, 1) := by decide +kernel
theorem d_Law_law_329 : decode code 329 = .ok (.iload_n 3, 1) := by decide +kernel
theorem d_Law_law_330 : decode code 330 = .ok (.iconst 2, 1) := by decide +kernel
theorem d_Law_law_331 : decode code 331 = .ok (.iadd, 1) := by decide +kernel
theorem d_Law_law_332 : decode code 332 = .ok (.iaload, 1) := by decide +kernel
theorem d_Law_law_333 : decode code 333 = .ok (.invokevirtual 36, 3) := by decide +kernel
theorem d_Law_law_336 : decode code 336 = .ok (.if_icmp .eq 1063, 3) := by decide +kernel
theorem d_Law_law_339 : decode code 339 = .ok (.iconst 0, 1) := by decide +kernel
theorem d_Law_law_340 : decode code 340 = .ok (.ireturn, 1) := by decide +kernel
theorem d_Law_law_341 : decode code 341 = .ok (.aload_n 1, 1) := by decide +kernel
theorem d_Law_law_342 : decode code 342 = .ok (.aload_n 0, 1) := by decide +kernel
theorem d_Law_law_343 : decode code 343 = .ok (.iload_n 3, 1) := by decide +kernel
theorem d_Law_law_344 : decode code 344 = .ok (.iconst 1, 1) := by decide +kernel
theorem d_Law_law_345 : decode code 345 = .ok (.iadd, 1) := by decide +kernel
theorem d_Law_law_346 : decode code 346 = .ok (.iaload, 1) := by decide +kernel
theorem d_Law_law_347 : decode code 347 = .ok (.aload_n 0, 1) := by decide +kernel
theorem d_Law_law_348 : decode code 348 = .ok (.iload_n 3, 1) := by decide +kernel
theorem d_Law_law_349 : decode code 349 = .ok (.iconst 2, 1) := by decide +kernel
theorem d_Law_law_350 : decode code 350 = .ok (.iadd, 1) := by decide +kernel
theorem d_Law_law_351 : decode code 351 = .ok (.iaload, 1) := by decide +kernel
theorem d_Law_law_352 : decode code 352 = .ok (.invokevirtual 37, 3) := by decide +kernel
theorem d_Law_law_355 : decode code 355 = .ok (.aload_n 2, 1) := by decide +kernel
theorem d_Law_law_356 : decode code 356 = .ok (.aload_n 0, 1) := by decide +kernel
theorem d_Law_law_357 : decode code 357 = .ok (.iload_n 3, 1) := by decide +kernel
theorem d_Law_law_358 : decode code 358 = .ok (.iconst 1, 1) := by decide +kernel
theorem d_Law_law_359 : decode code 359 = .ok (.iadd, 1) := by decide +kernel
theorem d_Law_law_360 : decode code 360 = .ok (.iaload, 1) := by decide +kernel
theorem d_Law_law_361 : decode code 361 = .ok (.aload_n 0, 1) := by decide +kernel
theorem d_Law_law_362 : decode code 362 = .ok (.iload_n 3, 1) := by decide +kernel
theorem d_Law_law_363 : decode code 363 = .ok (.iconst 2, 1) := by decide +kernel
theorem d_Law_law_364 : decode code 364 = .ok (.iadd, 1) := by decide +kernel
theorem d_Law_law_365 : decode code 365 = .ok (.iaload, 1) := by decide +kernel
theorem d_Law_law_366 : decode code 366 = .ok (.invokevirtual 40, 3) := by decide +kernel
theorem d_Law_law_369 : decode code 369 = .ok (.if_icmp .eq 1030, 3) := by decide +kernel
theorem d_Law_law_372 : decode code 372 = .ok (.iconst 0, 1) := by decide +kernel
theorem d_Law_law_373 : decode code 373 = .ok (.ireturn, 1) := by decide +kernel
theorem d_Law_law_374 : decode code 374 = .ok (.aload_n 1, 1) := by decide +kernel
theorem d_Law_law_375 : decode code 375 = .ok (.aload_n 0, 1) := by decide +kernel
theorem d_Law_law_376 : decode code 376 = .ok (.iload_n 3, 1) := by decide +kernel
theorem d_Law_law_377 : decode code 377 = .ok (.iconst 1, 1) := by decide +kernel
theorem d_Law_law_378 : decode code 378 = .ok (.iadd, 1) := by decide +kernel
theorem d_Law_law_379 : decode code 379 = .ok (.iaload, 1) := by decide +kernel
theorem d_Law_law_380 : decode code 380 = .ok (.aload_n 0, 1) := by decide +kernel
theorem d_Law_law_381 : decode code 381 = .ok (.iload_n 3, 1) := by decide +kernel
theorem d_Law_law_382 : decode code 382 = .ok (.iconst 2, 1) := by decide +kernel
theorem d_Law_law_383 : decode code 383 = .ok (.iadd, 1) := by decide +kernel
theorem d_Law_law_384 : decode code 384 = .ok (.iaload, 1) := by decide +kernel
theorem d_Law_law_385 : decode code 385 = .ok (.invokevirtual 41, 3) := by decide +kernel
theorem d_Law_law_388 : decode code 388 = .ok (.aload_n 2, 1) := by decide +kernel
theorem d_Law_law_389 : decode code 389 = .ok (.aload_n 0, 1) := by decide +kernel
theorem d_Law_law_390 : decode code 390 = .ok (.iload_n 3, 1) := by decide +kernel
theorem d_Law_law_391 : decode code 391 = .ok (.iconst 1, 1) := by decide +kernel
theorem d_Law_law_392 : decode code 392 = .ok (.iadd, 1) := by decide +kernel
theorem d_Law_law_393 : decode code 393 = .ok (.iaload, 1) := by decide +kernel
theorem d_Law_law_394 : decode code 394 = .ok (.aload_n 0, 1) := by decide +kernel
theorem d_Law_law_395 : decode code 395 = .ok (.iload_n 3, 1) := by decide +kernel
theorem d_Law_law_396 : decode code 396 = .ok (.iconst 2, 1) := by decide +kernel
theorem d_Law_law_397 : decode code 397 = .ok (.iadd, 1) := by decide +kernel
theorem d_Law_law_398 : decode code 398 = .ok (.iaload, 1) := by decide +kernel
theorem d_Law_law_399 : decode code 399 = .ok (.invokevirtual 44, 3) := by decide +kernel
theorem d_Law_law_402 : decode code 402 = .ok (.if_icmp .eq 997, 3) := by decide +kernel
theorem d_Law_law_405 : decode code 405 = .ok (.iconst 0, 1) := by decide +kernel
theorem d_Law_law_406 : decode code 406 = .ok (.ireturn, 1) := by decide +kernel
theorem d_Law_law_407 : decode code 407 = .ok (.aload_n 1, 1) := by decide +kernel
theorem d_Law_law_408 : decode code 408 = .ok (.aload_n 0, 1) := by decide +kernel
theorem d_Law_law_409 : decode code 409 = .ok (.iload_n 3, 1) := by decide +kernel
theorem d_Law_law_410 : decode code 410 = .ok (.iconst 1, 1) := by decide +kernel
theorem d_Law_law_411 : decode code 411 = .ok (.iadd, 1) := by decide +kernel
theorem d_Law_law_412 : decode code 412 = .ok (.iaload, 1) := by decide +kernel
theorem d_Law_law_413 : decode code 413 = .ok (.aload_n 0, 1) := by decide +kernel
theorem d_Law_law_414 : decode code 414 = .ok (.iload_n 3, 1) := by decide +kernel
theorem d_Law_law_415 : decode code 415 = .ok (.iconst 2, 1) := by decide +kernel
theorem d_Law_law_416 : decode code 416 = .ok (.iadd, 1) := by decide +kernel
theorem d_Law_law_417 : decode code 417 = .ok (.iaload, 1) := by decide +kernel
theorem d_Law_law_418 : decode code 418 = .ok (.invokevirtual 45, 3) := by decide +kernel
theorem d_Law_law_421 : decode code 421 = .ok (.aload_n 2, 1) := by decide +kernel
theorem d_Law_law_422 : decode code 422 = .ok (.aload_n 0, 1) := by decide +kernel
theorem d_Law_law_423 : decode code 423 = .ok (.iload_n 3, 1) := by decide +kernel
theorem d_Law_law_424 : decode code 424 = .ok (.iconst 1, 1) := by decide +kernel
theorem d_Law_law_425 : decode code 425 = .ok (.iadd, 1) := by decide +kernel
theorem d_Law_law_426 : decode code 426 = .ok (.iaload, 1) := by decide +kernel
theorem d_Law_law_427 : decode code 427 = .ok (.aload_n 0, 1) := by decide +kernel
theorem d_Law_law_428 : decode code 428 = .ok (.iload_n 3, 1) := by decide +kernel
theorem d_Law_law_429 : decode code 429 = .ok (.iconst 2, 1) := by decide +kernel
theorem d_Law_law_430 : decode code 430 = .ok (.iadd, 1) := by decide +kernel
theorem d_Law_law_431 : decode code 431 = .ok (.iaload, 1) := by decide +kernel
theorem d_Law_law_432 : decode code 432 = .ok (.invokevirtual 48, 3) := by decide +kernel
theorem d_Law_law_435 : decode code 435 = .ok (.if_icmp .eq 964, 3) := by decide +kernel
theorem d_Law_law_438 : decode code 438 = .ok (.iconst 0, 1) := by decide +kernel
theorem d_Law_law_439 : decode code 439 = .ok (.ireturn, 1) := by decide +kernel
theorem d_Law_law_440 : decode code 440 = .ok (.aload_n 1, 1) := by decide +kernel
theorem d_Law_law_441 : decode code 441 = .ok (.aload_n 0, 1) := by decide +kernel
theorem d_Law_law_442 : decode code 442 = .ok (.iload_n 3, 1) := by decide +kernel
theorem d_Law_law_443 : decode code 443 = .ok (.iconst 1, 1) := by decide +kernel
theorem d_Law_law_444 : decode code 444 = .ok (.iadd, 1) := by decide +kernel
theorem d_Law_law_445 : decode code 445 = .ok (.iaload, 1) := by decide +kernel
theorem d_Law_law_446 : decode code 446 = .ok (.invokevirtual 49, 3) := by decide +kernel
theorem d_Law_law_449 : decode code 449 = .ok (.aload_n 2, 1) := by decide +kernel
theorem d_Law_law_450 : decode code 450 = .ok (.aload_n 0, 1) := by decide +kernel
theorem d_Law_law_451 : decode code 451 = .ok (.iload_n 3, 1) := by decide +kernel
theorem d_Law_law_452 : decode code 452 = .ok (.iconst 1, 1) := by decide +kernel
theorem d_Law_law_453 : decode code 453 = .ok (.iadd, 1) := by decide +kernel
theorem d_Law_law_454 : decode code 454 = .ok (.iaload, 1) := by decide +kernel
theorem d_Law_law_455 : decode code 455 = .ok (.invokevirtual 52, 3) := by decide +kernel
theorem d_Law_law_458 : decode code 458 = .ok (.if_icmp .eq 941, 3) := by decide +kernel
theorem d_Law_law_461 : decode code 461 = .ok (.iconst 0, 1) := by decide +kernel
theorem d_Law_law_462 : decode code 462 = .ok (.ireturn, 1) := by decide +kernel
theorem d_Law_law_463 : decode code 463 = .ok (.aload_n 1, 1) := by decide +kernel
theorem d_Law_law_464 : decode code 464 = .ok (.aload_n 0, 1) := by decide +kernel
theorem d_Law_law_465 : decode code 465 = .ok (.iload_n 3, 1) := by decide +kernel
theorem d_Law_law_466 : decode code 466 = .ok (.iconst 1, 1) := by decide +kernel
theorem d_Law_law_467 : decode code 467 = .ok (.iadd, 1) := by decide +kernel
theorem d_Law_law_468 : decode code 468 = .ok (.iaload, 1) := by decide +kernel
theorem d_Law_law_469 : decode code 469 = .ok (.aload_n 0, 1) := by decide +kernel
theorem d_Law_law_470 : decode code 470 = .ok (.iload_n 3, 1) := by decide +kernel
theorem d_Law_law_471 : decode code 471 = .ok (.iconst 2, 1) := by decide +kernel
theorem d_Law_law_472 : decode code 472 = .ok (.iadd, 1) := by decide +kernel
theorem d_Law_law_473 : decode code 473 = .ok (.iaload, 1) := by decide +kernel
theorem d_Law_law_474 : decode code 474 = .ok (.aload_n 0, 1) := by decide +kernel
theorem d_Law_law_475 : decode code 475 = .ok (.iload_n 3, 1) := by decide +kernel
theorem d_Law_law_476 : decode code 476 = .ok (.iconst 3, 1) := by decide +kernel
theorem d_Law_law_477 : decode code 477 = .ok (.iadd, 1) := by decide +kernel
theorem d_Law_law_478 : decode code 478 = .ok (.iaload, 1) := by decide +kernel
theorem d_Law_law_479 : decode code 479 = .ok (.invokevirtual 53, 3) := by decide +kernel
theorem d_Law_law_482 : decode code 482 = .ok (.aload_n 2, 1) := by decide +kernel
theorem d_Law_law_483 : decode code 483 = .ok (.aload_n 0, 1) := by decide +kernel
theorem d_Law_law_484 : decode code 484 = .ok (.iload_n 3, 1) := by decide +kernel
theorem d_Law_law_485 : decode code 485 = .ok (.iconst 1, 1) := by decide +kernel
theorem d_Law_law_486 : decode code 486 = .ok (.iadd, 1) := by decide +kernel
theorem d_Law_law_487 : decode code 487 = .ok (.iaload, 1) := by decide +kernel
theorem d_Law_law_488 : decode code 488 = .ok (.aload_n 0, 1) := by decide +kernel
theorem d_Law_law_489 : decode code 489 = .ok (.iload_n 3, 1) := by decide +kernel
theorem d_Law_law_490 : decode code 490 = .ok (.iconst 2, 1) := by decide +kernel
theorem d_Law_law_491 : decode code 491 = .ok (.iadd, 1) := by decide +kernel
theorem d_Law_law_492 : decode code 492 = .ok (.iaload, 1) := by decide +kernel
theorem d_Law_law_493 : decode code 493 = .ok (.aload_n 0, 1) := by decide +kernel
theorem d_Law_law_494 : decode code 494 = .ok (.iload_n 3, 1) := by decide +kernel
theorem d_Law_law_495 : decode code 495 = .ok (.iconst 3, 1) := by decide +kernel
theorem d_Law_law_496 : decode code 496 = .ok (.iadd, 1) := by decide +kernel
theorem d_Law_law_497 : decode code 497 = .ok (.iaload, 1) := by decide +kernel
theorem d_Law_law_498 : decode code 498 = .ok (.invokevirtual 57, 3) := by decide +kernel
theorem d_Law_law_501 : decode code 501 = .ok (.if_icmp .eq 898, 3) := by decide +kernel
theorem d_Law_law_504 : decode code 504 = .ok (.iconst 0, 1) := by decide +kernel
theorem d_Law_law_505 : decode code 505 = .ok (.ireturn, 1) := by decide +kernel
theorem d_Law_law_506 : decode code 506 = .ok (.aload_n 1, 1) := by decide +kernel
theorem d_Law_law_507 : decode code 507 = .ok (.aload_n 0, 1) := by decide +kernel
theorem d_Law_law_508 : decode code 508 = .ok (.iload_n 3, 1) := by decide +kernel
theorem d_Law_law_509 : decode code 509 = .ok (.iconst 1, 1) := by decide +kernel
theorem d_Law_law_510 : decode code 510 = .ok (.iadd, 1) := by decide +kernel
theorem d_Law_law_511 : decode code 511 = .ok (.iaload, 1) := by decide +kernel
theorem d_Law_law_512 : decode code 512 = .ok (.aload_n 0, 1) := by decide +kernel
theorem d_Law_law_513 : decode code 513 = .ok (.iload_n 3, 1) := by decide +kernel
theorem d_Law_law_514 : decode code 514 = .ok (.iconst 2, 1) := by decide +kernel
theorem d_Law_law_515 : decode code 515 = .ok (.iadd, 1) := by decide +kernel
theorem d_Law_law_516 : decode code 516 = .ok (.iaload, 1) := by decide +kernel
theorem d_Law_law_517 : decode code 517 = .ok (.aload_n 0, 1) := by decide +kernel
theorem d_Law_law_518 : decode code 518 = .ok (.iload_n 3, 1) := by decide +kernel
theorem d_Law_law_519 : decode code 519 = .ok (.iconst 3, 1) := by decide +kernel
theorem d_Law_law_520 : decode code 520 = .ok (.iadd, 1) := by decide +kernel
theorem d_Law_law_521 : decode code 521 = .ok (.iaload, 1) := by decide +kernel
theorem d_Law_law_522 : decode code 522 = .ok (.invokevirtual 58, 3) := by decide +kernel
theorem d_Law_law_525 : decode code 525 = .ok (.aload_n 2, 1) := by decide +kernel
theorem d_Law_law_526 : decode code 526 = .ok (.aload_n 0, 1) := by decide +kernel
theorem d_Law_law_527 : decode code 527 = .ok (.iload_n 3, 1) := by decide +kernel
theorem d_Law_law_528 : decode code 528 = .ok (.iconst 1, 1) := by decide +kernel
theorem d_Law_law_529 : decode code 529 = .ok (.iadd, 1) := by decide +kernel
theorem d_Law_law_530 : decode code 530 = .ok (.iaload, 1) := by decide +kernel
theorem d_Law_law_531 : decode code 531 = .ok (.aload_n 0, 1) := by decide +kernel
theorem d_Law_law_532 : decode code 532 = .ok (.iload_n 3, 1) := by decide +kernel
theorem d_Law_law_533 : decode code 533 = .ok (.iconst 2, 1) := by decide +kernel
theorem d_Law_law_534 : decode code 534 = .ok (.iadd, 1) := by decide +kernel
theorem d_Law_law_535 : decode code 535 = .ok (.iaload, 1) := by decide +kernel
theorem d_Law_law_536 : decode code 536 = .ok (.aload_n 0, 1) := by decide +kernel
theorem d_Law_law_537 : decode code 537 = .ok (.iload_n 3, 1) := by decide +kernel
theorem d_Law_law_538 : decode code 538 = .ok (.iconst 3, 1) := by decide +kernel
theorem d_Law_law_539 : decode code 539 = .ok (.iadd, 1) := by decide +kernel
theorem d_Law_law_540 : decode code 540 = .ok (.iaload, 1) := by decide +kernel
theorem d_Law_law_541 : decode code 541 = .ok (.invokevirtual 62, 3) := by decide +kernel
theorem d_Law_law_544 : decode code 544 = .ok (.if_icmp .eq 855, 3) := by decide +kernel
theorem d_Law_law_547 : decode code 547 = .ok (.iconst 0, 1) := by decide +kernel
theorem d_Law_law_548 : decode code 548 = .ok (.ireturn, 1) := by decide +kernel
theorem d_Law_law_549 : decode code 549 = .ok (.aload_n 1, 1) := by decide +kernel
theorem d_Law_law_550 : decode code 550 = .ok (.aload_n 0, 1) := by decide +kernel
theorem d_Law_law_551 : decode code 551 = .ok (.iload_n 3, 1) := by decide +kernel
theorem d_Law_law_552 : decode code 552 = .ok (.iconst 1, 1) := by decide +kernel
theorem d_Law_law_553 : decode code 553 = .ok (.iadd, 1) := by decide +kernel
theorem d_Law_law_554 : decode code 554 = .ok (.iaload, 1) := by decide +kernel
theorem d_Law_law_555 : decode code 555 = .ok (.aload_n 0, 1) := by decide +kernel
theorem d_Law_law_556 : decode code 556 = .ok (.iload_n 3, 1) := by decide +kernel
theorem d_Law_law_557 : decode code 557 = .ok (.iconst 2, 1) := by decide +kernel
theorem d_Law_law_558 : decode code 558 = .ok (.iadd, 1) := by decide +kernel
theorem d_Law_law_559 : decode code 559 = .ok (.iaload, 1) := by decide +kernel
theorem d_Law_law_560 : decode code 560 = .ok (.aload_n 0, 1) := by decide +kernel
theorem d_Law_law_561 : decode code 561 = .ok (.iload_n 3, 1) := by decide +kernel
theorem d_Law_law_562 : decode code 562 = .ok (.iconst 3, 1) := by decide +kernel
theorem d_Law_law_563 : decode code 563 = .ok (.iadd, 1) := by decide +kernel
theorem d_Law_law_564 : decode code 564 = .ok (.iaload, 1) := by decide +kernel
theorem d_Law_law_565 : decode code 565 = .ok (.invokevirtual 63, 3) := by decide +kernel
theorem d_Law_law_568 : decode code 568 = .ok (.aload_n 2, 1) := by decide +kernel
theorem d_Law_law_569 : decode code 569 = .ok (.aload_n 0, 1) := by decide +kernel
theorem d_Law_law_570 : decode code 570 = .ok (.iload_n 3, 1) := by decide +kernel
theorem d_Law_law_571 : decode code 571 = .ok (.iconst 1, 1) := by decide +kernel
theorem d_Law_law_572 : decode code 572 = .ok (.iadd, 1) := by decide +kernel
theorem d_Law_law_573 : decode code 573 = .ok (.iaload, 1) := by decide +kernel
theorem d_Law_law_574 : decode code 574 = .ok (.aload_n 0, 1) := by decide +kernel
theorem d_Law_law_575 : decode code 575 = .ok (.iload_n 3, 1) := by decide +kernel
theorem d_Law_law_576 : decode code 576 = .ok (.iconst 2, 1) := by decide +kernel
theorem d_Law_law_577 : decode code 577 = .ok (.iadd, 1) := by decide +kernel
theorem d_Law_law_578 : decode code 578 = .ok (.iaload, 1) := by decide +kernel
theorem d_Law_law_579 : decode code 579 = .ok (.aload_n 0, 1) := by decide +kernel
theorem d_Law_law_580 : decode code 580 = .ok (.iload_n 3, 1) := by decide +kernel
theorem d_Law_law_581 : decode code 581 = .ok (.iconst 3, 1) := by decide +kernel
theorem d_Law_law_582 : decode code 582 = .ok (.iadd, 1) := by decide +kernel
theorem d_Law_law_583 : decode code 583 = .ok (.iaload, 1) := by decide +kernel
theorem d_Law_law_584 : decode code 584 = .ok (.invokevirtual 66, 3) := by decide +kernel
theorem d_Law_law_587 : decode code 587 = .ok (.if_icmp .eq 812, 3) := by decide +kernel
theorem d_Law_law_590 : decode code 590 = .ok (.iconst 0, 1) := by decide +kernel
theorem d_Law_law_591 : decode code 591 = .ok (.ireturn, 1) := by decide +kernel
theorem d_Law_law_592 : decode code 592 = .ok (.aload_n 1, 1) := by decide +kernel
theorem d_Law_law_593 : decode code 593 = .ok (.aload_n 0, 1) := by decide +kernel
theorem d_Law_law_594 : decode code 594 = .ok (.iload_n 3, 1) := by decide +kernel
theorem d_Law_law_595 : decode code 595 = .ok (.iconst 1, 1) := by decide +kernel
theorem d_Law_law_596 : decode code 596 = .ok (.iadd, 1) := by decide +kernel
theorem d_Law_law_597 : decode code 597 = .ok (.iaload, 1) := by decide +kernel
theorem d_Law_law_598 : decode code 598 = .ok (.aload_n 0, 1) := by decide +kernel
theorem d_Law_law_599 : decode code 599 = .ok (.iload_n 3, 1) := by decide +kernel
theorem d_Law_law_600 : decode code 600 = .ok (.iconst 2, 1) := by decide +kernel
theorem d_Law_law_601 : decode code 601 = .ok (.iadd, 1) := by decide +kernel
theorem d_Law_law_602 : decode code 602 = .ok (.iaload, 1) := by decide +kernel
theorem d_Law_law_603 : decode code 603 = .ok (.invokevirtual 67, 3) := by decide +kernel
theorem d_Law_law_606 : decode code 606 = .ok (.aload_n 2, 1) := by decide +kernel
theorem d_Law_law_607 : decode code 607 = .ok (.aload_n 0, 1) := by decide +kernel
theorem d_Law_law_608 : decode code 608 = .ok (.iload_n 3, 1) := by decide +kernel
theorem d_Law_law_609 : decode code 609 = .ok (.iconst 1, 1) := by decide +kernel
theorem d_Law_law_610 : decode code 610 = .ok (.iadd, 1) := by decide +kernel
theorem d_Law_law_611 : decode code 611 = .ok (.iaload, 1) := by decide +kernel
theorem d_Law_law_612 : decode code 612 = .ok (.aload_n 0, 1) := by decide +kernel
theorem d_Law_law_613 : decode code 613 = .ok (.iload_n 3, 1) := by decide +kernel
theorem d_Law_law_614 : decode code 614 = .ok (.iconst 2, 1) := by decide +kernel
theorem d_Law_law_615 : decode code 615 = .ok (.iadd, 1) := by decide +kernel
theorem d_Law_law_616 : decode code 616 = .ok (.iaload, 1) := by decide +kernel
theorem d_Law_law_617 : decode code 617 = .ok (.invokevirtual 71, 3) := by decide +kernel
theorem d_Law_law_620 : decode code 620 = .ok (.if_icmp .eq 779, 3) := by decide +kernel
theorem d_Law_law_623 : decode code 623 = .ok (.iconst 0, 1) := by decide +kernel
theorem d_Law_law_624 : decode code 624 = .ok (.ireturn, 1) := by decide +kernel
theorem d_Law_law_625 : decode code 625 = .ok (.aload_n 1, 1) := by decide +kernel
theorem d_Law_law_626 : decode code 626 = .ok (.aload_n 0, 1) := by decide +kernel
theorem d_Law_law_627 : decode code 627 = .ok (.iload_n 3, 1) := by decide +kernel
theorem d_Law_law_628 : decode code 628 = .ok (.iconst 1, 1) := by decide +kernel
theorem d_Law_law_629 : decode code 629 = .ok (.iadd, 1) := by decide +kernel
theorem d_Law_law_630 : decode code 630 = .ok (.iaload, 1) := by decide +kernel
theorem d_Law_law_631 : decode code 631 = .ok (.aload_n 0, 1) := by decide +kernel
theorem d_Law_law_632 : decode code 632 = .ok (.iload_n 3, 1) := by decide +kernel
theorem d_Law_law_633 : decode code 633 = .ok (.iconst 2, 1) := by decide +kernel
theorem d_Law_law_634 : decode code 634 = .ok (.iadd, 1) := by decide +kernel
theorem d_Law_law_635 : decode code 635 = .ok (.iaload, 1) := by decide +kernel
theorem d_Law_law_636 : decode code 636 = .ok (.ifCond .eq 7, 3) := by decide +kernel
theorem d_Law_law_639 : decode code 639 = .ok (.iconst 1, 1) := by decide +kernel
theorem d_Law_law_640 : decode code 640 = .ok (.goto 4, 3) := by decide +kernel
theorem d_Law_law_643 : decode code 643 = .ok (.iconst 0, 1) := by decide +kernel
theorem d_Law_law_644 : decode code 644 = .ok (.invokevirtual 72, 3) := by decide +kernel
theorem d_Law_law_647 : decode code 647 = .ok (.aload_n 2, 1) := by decide +kernel
theorem d_Law_law_648 : decode code 648 = .ok (.aload_n 0, 1) := by decide +kernel
theorem d_Law_law_649 : decode code 649 = .ok (.iload_n 3, 1) := by decide +kernel
theorem d_Law_law_650 : decode code 650 = .ok (.iconst 1, 1) := by decide +kernel
theorem d_Law_law_651 : decode code 651 = .ok (.iadd, 1) := by decide +kernel
theorem d_Law_law_652 : decode code 652 = .ok (.iaload, 1) := by decide +kernel
theorem d_Law_law_653 : decode code 653 = .ok (.aload_n 0, 1) := by decide +kernel
theorem d_Law_law_654 : decode code 654 = .ok (.iload_n 3, 1) := by decide +kernel
theorem d_Law_law_655 : decode code 655 = .ok (.iconst 2, 1) := by decide +kernel
theorem d_Law_law_656 : decode code 656 = .ok (.iadd, 1) := by decide +kernel
theorem d_Law_law_657 : decode code 657 = .ok (.iaload, 1) := by decide +kernel
theorem d_Law_law_658 : decode code 658 = .ok (.ifCond .eq 7, 3) := by decide +kernel
theorem d_Law_law_661 : decode code 661 = .ok (.iconst 1, 1) := by decide +kernel
theorem d_Law_law_662 : decode code 662 = .ok (.goto 4, 3) := by decide +kernel
theorem d_Law_law_665 : decode code 665 = .ok (.iconst 0, 1) := by decide +kernel
theorem d_Law_law_666 : decode code 666 = .ok (.invokevirtual 76, 3) := by decide +kernel
theorem d_Law_law_669 : decode code 669 = .ok (.if_icmp .eq 730, 3) := by decide +kernel
theorem d_Law_law_672 : decode code 672 = .ok (.iconst 0, 1) := by decide +kernel
theorem d_Law_law_673 : decode code 673 = .ok (.ireturn, 1) := by decide +kernel
theorem d_Law_law_674 : decode code 674 = .ok (.aload_n 1, 1) := by decide +kernel
theorem d_Law_law_675 : decode code 675 = .ok (.invokevirtual 77, 3) := by decide +kernel
theorem d_Law_law_678 : decode code 678 = .ok (.aload_n 2, 1) := by decide +kernel
theorem d_Law_law_679 : decode code 679 = .ok (.invokevirtual 81, 3) := by decide +kernel
theorem d_Law_law_682 : decode code 682 = .ok (.if_icmp .eq 717, 3) := by decide +kernel
theorem d_Law_law_685 : decode code 685 = .ok (.iconst 0, 1) := by decide +kernel
theorem d_Law_law_686 : decode code 686 = .ok (.ireturn, 1) := by decide +kernel
theorem d_Law_law_687 : decode code 687 = .ok (.aload_n 1, 1) := by decide +kernel
theorem d_Law_law_688 : decode code 688 = .ok (.aload_n 0, 1) := by decide +kernel
theorem d_Law_law_689 : decode code 689 = .ok (.iload_n 3, 1) := by decide +kernel
theorem d_Law_law_690 : decode code 690 = .ok (.iconst 1, 1) := by decide +kernel
theorem d_Law_law_691 : decode code 691 = .ok (.iadd, 1) := by decide +kernel
theorem d_Law_law_692 : decode code 692 = .ok (.iaload, 1) := by decide +kernel
theorem d_Law_law_693 : decode code 693 = .ok (.aload_n 0, 1) := by decide +kernel
theorem d_Law_law_694 : decode code 694 = .ok (.iload_n 3, 1) := by decide +kernel
theorem d_Law_law_695 : decode code 695 = .ok (.iconst 2, 1) := by decide +kernel
theorem d_Law_law_696 : decode code 696 = .ok (.iadd, 1) := by decide +kernel
theorem d_Law_law_697 : decode code 697 = .ok (.iaload, 1) := by decide +kernel
theorem d_Law_law_698 : decode code 698 = .ok (.aload_n 0, 1) := by decide +kernel
theorem d_Law_law_699 : decode code 699 = .ok (.iload_n 3, 1) := by decide +kernel
theorem d_Law_law_700 : decode code 700 = .ok (.iconst 3, 1) := by decide +kernel
theorem d_Law_law_701 : decode code 701 = .ok (.iadd, 1) := by decide +kernel
theorem d_Law_law_702 : decode code 702 = .ok (.iaload, 1) := by decide +kernel
theorem d_Law_law_703 : decode code 703 = .ok (.invokevirtual 82, 3) := by decide +kernel
theorem d_Law_law_706 : decode code 706 = .ok (.aload_n 2, 1) := by decide +kernel
theorem d_Law_law_707 : decode code 707 = .ok (.aload_n 0, 1) := by decide +kernel
theorem d_Law_law_708 : decode code 708 = .ok (.iload_n 3, 1) := by decide +kernel
theorem d_Law_law_709 : decode code 709 = .ok (.iconst 1, 1) := by decide +kernel
theorem d_Law_law_710 : decode code 710 = .ok (.iadd, 1) := by decide +kernel
theorem d_Law_law_711 : decode code 711 = .ok (.iaload, 1) := by decide +kernel
theorem d_Law_law_712 : decode code 712 = .ok (.aload_n 0, 1) := by decide +kernel
theorem d_Law_law_713 : decode code 713 = .ok (.iload_n 3, 1) := by decide +kernel
theorem d_Law_law_714 : decode code 714 = .ok (.iconst 2, 1) := by decide +kernel
theorem d_Law_law_715 : decode code 715 = .ok (.iadd, 1) := by decide +kernel
theorem d_Law_law_716 : decode code 716 = .ok (.iaload, 1) := by decide +kernel
theorem d_Law_law_717 : decode code 717 = .ok (.aload_n 0, 1) := by decide +kernel
theorem d_Law_law_718 : decode code 718 = .ok (.iload_n 3, 1) := by decide +kernel
theorem d_Law_law_719 : decode code 719 = .ok (.iconst 3, 1) := by decide +kernel
theorem d_Law_law_720 : decode code 720 = .ok (.iadd, 1) := by decide +kernel
theorem d_Law_law_721 : decode code 721 = .ok (.iaload, 1) := by decide +kernel
theorem d_Law_law_722 : decode code 722 = .ok (.invokevirtual 85, 3) := by decide +kernel
theorem d_Law_law_725 : decode code 725 = .ok (.if_icmp .eq 674, 3) := by decide +kernel
theorem d_Law_law_728 : decode code 728 = .ok (.iconst 0, 1) := by decide +kernel
theorem d_Law_law_729 : decode code 729 = .ok (.ireturn, 1) := by decide +kernel
theorem d_Law_law_730 : decode code 730 = .ok (.aload_n 1, 1) := by decide +kernel
theorem d_Law_law_731 : decode code 731 = .ok (.aload_n 0, 1) := by decide +kernel
theorem d_Law_law_732 : decode code 732 = .ok (.iload_n 3, 1) := by decide +kernel
theorem d_Law_law_733 : decode code 733 = .ok (.iconst 1, 1) := by decide +kernel
theorem d_Law_law_734 : decode code 734 = .ok (.iadd, 1) := by decide +kernel
theorem d_Law_law_735 : decode code 735 = .ok (.iaload, 1) := by decide +kernel
theorem d_Law_law_736 : decode code 736 = .ok (.aload_n 0, 1) := by decide +kernel
theorem d_Law_law_737 : decode code 737 = .ok (.iload_n 3, 1) := by decide +kernel
theorem d_Law_law_738 : decode code 738 = .ok (.iconst 2, 1) := by decide +kernel
theorem d_Law_law_739 : decode code 739 = .ok (.iadd, 1) := by decide +kernel
theorem d_Law_law_740 : decode code 740 = .ok (.iaload, 1) := by decide +kernel
theorem d_Law_law_741 : decode code 741 = .ok (.aload_n 0, 1) := by decide +kernel
theorem d_Law_law_742 : decode code 742 = .ok (.iload_n 3, 1) := by decide +kernel
theorem d_Law_law_743 : decode code 743 = .ok (.iconst 3, 1) := by decide +kernel
theorem d_Law_law_744 : decode code 744 = .ok (.iadd, 1) := by decide +kernel
theorem d_Law_law_745 : decode code 745 = .ok (.iaload, 1) := by decide +kernel
theorem d_Law_law_746 : decode code 746 = .ok (.invokevirtual 86, 3) := by decide +kernel
theorem d_Law_law_749 : decode code 749 = .ok (.aload_n 2, 1) := by decide +kernel
theorem d_Law_law_750 : decode code 750 = .ok (.aload_n 0, 1) := by decide +kernel
theorem d_Law_law_751 : decode code 751 = .ok (.iload_n 3, 1) := by decide +kernel
theorem d_Law_law_752 : decode code 752 = .ok (.iconst 1, 1) := by decide +kernel
theorem d_Law_law_753 : decode code 753 = .ok (.iadd, 1) := by decide +kernel
theorem d_Law_law_754 : decode code 754 = .ok (.iaload, 1) := by decide +kernel
theorem d_Law_law_755 : decode code 755 = .ok (.aload_n 0, 1) := by decide +kernel
theorem d_Law_law_756 : decode code 756 = .ok (.iload_n 3, 1) := by decide +kernel
theorem d_Law_law_757 : decode code 757 = .ok (.iconst 2, 1) := by decide +kernel
theorem d_Law_law_758 : decode code 758 = .ok (.iadd, 1) := by decide +kernel
theorem d_Law_law_759 : decode code 759 = .ok (.iaload, 1) := by decide +kernel
theorem d_Law_law_760 : decode code 760 = .ok (.aload_n 0, 1) := by decide +kernel
theorem d_Law_law_761 : decode code 761 = .ok (.iload_n 3, 1) := by decide +kernel
theorem d_Law_law_762 : decode code 762 = .ok (.iconst 3, 1) := by decide +kernel
theorem d_Law_law_763 : decode code 763 = .ok (.iadd, 1) := by decide +kernel
theorem d_Law_law_764 : decode code 764 = .ok (.iaload, 1) := by decide +kernel
theorem d_Law_law_765 : decode code 765 = .ok (.invokevirtual 89, 3) := by decide +kernel
theorem d_Law_law_768 : decode code 768 = .ok (.if_icmp .eq 631, 3) := by decide +kernel
theorem d_Law_law_771 : decode code 771 = .ok (.iconst 0, 1) := by decide +kernel
theorem d_Law_law_772 : decode code 772 = .ok (.ireturn, 1) := by decide +kernel
theorem d_Law_law_773 : decode code 773 = .ok (.aload_n 1, 1) := by decide +kernel
theorem d_Law_law_774 : decode code 774 = .ok (.aload_n 0, 1) := by decide +kernel
theorem d_Law_law_775 : decode code 775 = .ok (.iload_n 3, 1) := by decide +kernel
theorem d_Law_law_776 : decode code 776 = .ok (.iconst 1, 1) := by decide +kernel
theorem d_Law_law_777 : decode code 777 = .ok (.iadd, 1) := by decide +kernel
theorem d_Law_law_778 : decode code 778 = .ok (.iaload, 1) := by decide +kernel
