def fL_law_18 (L : Nat) (xs : Nat → Int32)    : Nat → Int32 → nv_Hp → Option (Bool × nv_Hp)
  | 0, _, _ => none
  | n + 1, x3, h => (if ((Int32.ofNat L) - 9) < x3 then some (true, h) else (if nv_inb x3 L = true then (nv_lt (((xs x3.toNatClampNeg) &&& 31)) fun v3 => (if v3 = 0 then (if nv_inb (x3 + 1) L = true then (if nv_inb (x3 + 2) L = true then (Option.bind (fc_purse h (xs (x3 + 1).toNatClampNeg) (xs (x3 + 2).toNatClampNeg)) fun q7 => (Option.bind (pm_purse q7.2 (xs (x3 + 1).toNatClampNeg) (xs (x3 + 2).toNatClampNeg)) fun q10 => (if q7.1 = q10.1 then ((fL_law_18 L xs n) (x3 + 9) q10.2) else some (false, q10.2)))) else none) else none) else (if v3 = 1 then (if nv_inb (x3 + 1) L = true then (if nv_inb (x3 + 2) L = true then (if nv_inb (x3 + 3) L = true then (if nv_inb (x3 + 4) L = true then (if nv_inb (x3 + 5) L = true then (if nv_inb (x3 + 6) L = true then (if nv_inb (x3 + 7) L = true then (if nv_inb (x3 + 8) L = true then (Option.bind (fc_leave h (xs (x3 + 1).toNatClampNeg) (xs (x3 + 2).toNatClampNeg) (xs (x3 + 3).toNatClampNeg) (xs (x3 + 4).toNatClampNeg) (xs (x3 + 5).toNatClampNeg) (xs (x3 + 6).toNatClampNeg) (xs (x3 + 7).toNatClampNeg) (xs (x3 + 8).toNatClampNeg)) fun q21 => (Option.bind (pm_leave q21.2 (xs (x3 + 1).toNatClampNeg) (xs (x3 + 2).toNatClampNeg) (xs (x3 + 3).toNatClampNeg) (xs (x3 + 4).toNatClampNeg) (xs (x3 + 5).toNatClampNeg) (xs (x3 + 6).toNatClampNeg) (xs (x3 + 7).toNatClampNeg) (xs (x3 + 8).toNatClampNeg)) fun q30 => (if q21.1 = q30.1 then ((fL_law_18 L xs n) (x3 + 9) q30.2) else some (false, q30.2)))) else none) else none) else none) else none) else none) else none) else none) else none) else (if v3 = 2 then (if nv_inb (x3 + 1) L = true then (if nv_inb (x3 + 2) L = true then (if nv_inb (x3 + 3) L = true then (if nv_inb (x3 + 4) L = true then (Option.bind (fc_back h (xs (x3 + 1).toNatClampNeg) (xs (x3 + 2).toNatClampNeg) (xs (x3 + 3).toNatClampNeg) (xs (x3 + 4).toNatClampNeg)) fun q37 => (Option.bind (pm_back q37.2 (xs (x3 + 1).toNatClampNeg) (xs (x3 + 2).toNatClampNeg) (xs (x3 + 3).toNatClampNeg) (xs (x3 + 4).toNatClampNeg)) fun q42 => (if q37.1 = q42.1 then ((fL_law_18 L xs n) (x3 + 9) q42.2) else some (false, q42.2)))) else none) else none) else none) else none) else (if v3 = 3 then (if nv_inb (x3 + 1) L = true then (if nv_inb (x3 + 2) L = true then (Option.bind (fc_heard h (xs (x3 + 1).toNatClampNeg) (xs (x3 + 2).toNatClampNeg)) fun q47 => (Option.bind (pm_heard q47.2 (xs (x3 + 1).toNatClampNeg) (xs (x3 + 2).toNatClampNeg)) fun q50 => (if q47.1 = q50.1 then ((fL_law_18 L xs n) (x3 + 9) q50.2) else some (false, q50.2)))) else none) else none) else (if v3 = 4 then (if nv_inb (x3 + 1) L = true then (if nv_inb (x3 + 2) L = true then (if nv_inb (x3 + 3) L = true then (if nv_inb (x3 + 4) L = true then (if nv_inb (x3 + 5) L = true then (if nv_inb (x3 + 6) L = true then (Option.bind (fc_bargain h (xs (x3 + 1).toNatClampNeg) (xs (x3 + 2).toNatClampNeg) (xs (x3 + 3).toNatClampNeg) (xs (x3 + 4).toNatClampNeg) (xs (x3 + 5).toNatClampNeg) (xs (x3 + 6).toNatClampNeg)) fun q59 => (Option.bind (pm_bargain q59.2 (xs (x3 + 1).toNatClampNeg) (xs (x3 + 2).toNatClampNeg) (xs (x3 + 3).toNatClampNeg) (xs (x3 + 4).toNatClampNeg) (xs (x3 + 5).toNatClampNeg) (xs (x3 + 6).toNatClampNeg)) fun q66 => (if q59.1 = q66.1 then ((fL_law_18 L xs n) (x3 + 9) q66.2) else some (false, q66.2)))) else none) else none) else none) else none) else none) else none) else (if v3 = 5 then (if nv_inb (x3 + 1) L = true then (Option.bind (fc_read h (xs (x3 + 1).toNatClampNeg)) fun q70 => (Option.bind (pm_read q70.2 (xs (x3 + 1).toNatClampNeg)) fun q72 => (if q70.1 = q72.1 then ((fL_law_18 L xs n) (x3 + 9) q72.2) else some (false, q72.2)))) else none) else (if v3 = 6 then (if nv_inb (x3 + 1) L = true then (if nv_inb (x3 + 2) L = true then (if nv_inb (x3 + 3) L = true then (if nv_inb (x3 + 4) L = true then (if nv_inb (x3 + 5) L = true then (Option.bind (fc_after h (xs (x3 + 1).toNatClampNeg) (xs (x3 + 2).toNatClampNeg) (xs (x3 + 3).toNatClampNeg) (xs (x3 + 4).toNatClampNeg) (xs (x3 + 5).toNatClampNeg)) fun q80 => (Option.bind (pm_after q80.2 (xs (x3 + 1).toNatClampNeg) (xs (x3 + 2).toNatClampNeg) (xs (x3 + 3).toNatClampNeg) (xs (x3 + 4).toNatClampNeg) (xs (x3 + 5).toNatClampNeg)) fun q86 => (if q80.1 = q86.1 then ((fL_law_18 L xs n) (x3 + 9) q86.2) else some (false, q86.2)))) else none) else none) else none) else none) else none) else (if v3 = 7 then (if nv_inb (x3 + 1) L = true then (if nv_inb (x3 + 2) L = true then (Option.bind (fc_leaveIs h (xs (x3 + 1).toNatClampNeg) (xs (x3 + 2).toNatClampNeg)) fun q91 => (Option.bind (pm_leaveIs h (xs (x3 + 1).toNatClampNeg) (xs (x3 + 2).toNatClampNeg)) fun q94 => (if q91 = q94 then ((fL_law_18 L xs n) (x3 + 9) h) else some (false, h)))) else none) else none) else (if v3 = 8 then (if nv_inb (x3 + 1) L = true then (if nv_inb (x3 + 2) L = true then (Option.bind (fc_bargainIs h (xs (x3 + 1).toNatClampNeg) (xs (x3 + 2).toNatClampNeg)) fun q99 => (Option.bind (pm_bargainIs h (xs (x3 + 1).toNatClampNeg) (xs (x3 + 2).toNatClampNeg)) fun q102 => (if q99 = q102 then ((fL_law_18 L xs n) (x3 + 9) h) else some (false, h)))) else none) else none) else (if v3 = 9 then (if nv_inb (x3 + 1) L = true then (if nv_inb (x3 + 2) L = true then (Option.bind (fc_type h (xs (x3 + 1).toNatClampNeg) (xs (x3 + 2).toNatClampNeg)) fun q107 => (Option.bind (pm_type q107.2 (xs (x3 + 1).toNatClampNeg) (xs (x3 + 2).toNatClampNeg)) fun q110 => (if q107.1 = q110.1 then ((fL_law_18 L xs n) (x3 + 9) q110.2) else some (false, q110.2)))) else none) else none) else (if v3 = 10 then (if nv_inb (x3 + 1) L = true then (Option.bind (fc_wipe h (xs (x3 + 1).toNatClampNeg)) fun q114 => (Option.bind (pm_wipe q114.2 (xs (x3 + 1).toNatClampNeg)) fun q116 => (if q114.1 = q116.1 then ((fL_law_18 L xs n) (x3 + 9) q116.2) else some (false, q116.2)))) else none) else (if v3 = 11 then (if nv_inb (x3 + 1) L = true then (Option.bind (fc_fault h (xs (x3 + 1).toNatClampNeg)) fun q120 => (Option.bind (pm_fault h (xs (x3 + 1).toNatClampNeg)) fun q122 => (if q120 = q122.1 then ((fL_law_18 L xs n) (x3 + 9) q122.2) else some (false, q122.2)))) else none) else (if v3 = 12 then (if nv_inb (x3 + 1) L = true then (if nv_inb (x3 + 2) L = true then (Option.bind (fc_law h (xs (x3 + 1).toNatClampNeg) (xs (x3 + 2).toNatClampNeg)) fun q127 => (Option.bind (pm_law h (xs (x3 + 1).toNatClampNeg) (xs (x3 + 2).toNatClampNeg)) fun q130 => (if q127 = q130.1 then ((fL_law_18 L xs n) (x3 + 9) q130.2) else some (false, q130.2)))) else none) else none) else (if v3 = 13 then (if nv_inb (x3 + 1) L = true then (if nv_inb (x3 + 2) L = true then (if nv_inb (x3 + 3) L = true then (if nv_inb (x3 + 4) L = true then (Option.bind (fc_reaches h (xs (x3 + 1).toNatClampNeg) (xs (x3 + 2).toNatClampNeg) (xs (x3 + 3).toNatClampNeg) (xs (x3 + 4).toNatClampNeg)) fun q137 => (Option.bind (pm_reaches h (xs (x3 + 1).toNatClampNeg) (xs (x3 + 2).toNatClampNeg) (xs (x3 + 3).toNatClampNeg) (xs (x3 + 4).toNatClampNeg)) fun q142 => (if q137 = q142.1 then ((fL_law_18 L xs n) (x3 + 9) q142.2) else some (false, q142.2)))) else none) else none) else none) else none) else (if v3 = 14 then (if nv_inb (x3 + 1) L = true then (if nv_inb (x3 + 2) L = true then (if nv_inb (x3 + 3) L = true then (Option.bind (fc_bound h (xs (x3 + 1).toNatClampNeg) (xs (x3 + 2).toNatClampNeg) (xs (x3 + 3).toNatClampNeg)) fun q148 => (Option.bind (pm_bound h (xs (x3 + 1).toNatClampNeg) (xs (x3 + 2).toNatClampNeg) (xs (x3 + 3).toNatClampNeg)) fun q152 => (if q148 = q152.1 then ((fL_law_18 L xs n) (x3 + 9) q152.2) else some (false, q152.2)))) else none) else none) else none) else (if v3 = 15 then (if nv_inb (x3 + 1) L = true then (if nv_inb (x3 + 2) L = true then (Option.bind (fc_till h (xs (x3 + 1).toNatClampNeg) (xs (x3 + 2).toNatClampNeg)) fun q157 => (Option.bind (pm_till h (xs (x3 + 1).toNatClampNeg) (xs (x3 + 2).toNatClampNeg)) fun q160 => (if q157 = q160.1 then ((fL_law_18 L xs n) (x3 + 9) q160.2) else some (false, q160.2)))) else none) else none) else (if v3 = 16 then (if nv_inb (x3 + 1) L = true then (if nv_inb (x3 + 2) L = true then (if nv_inb (x3 + 3) L = true then (Option.bind (fc_ask h (xs (x3 + 1).toNatClampNeg) (xs (x3 + 2).toNatClampNeg) (xs (x3 + 3).toNatClampNeg)) fun q166 => (Option.bind (pm_ask h (xs (x3 + 1).toNatClampNeg) (xs (x3 + 2).toNatClampNeg) (xs (x3 + 3).toNatClampNeg)) fun q170 => (if q166 = q170.1 then ((fL_law_18 L xs n) (x3 + 9) q170.2) else some (false, q170.2)))) else none) else none) else none) else (if v3 = 17 then (if nv_inb (x3 + 1) L = true then (if nv_inb (x3 + 2) L = true then (Option.bind (fc_owes h (xs (x3 + 1).toNatClampNeg) (xs (x3 + 2).toNatClampNeg)) fun q175 => (Option.bind (pm_owes h (xs (x3 + 1).toNatClampNeg) (xs (x3 + 2).toNatClampNeg)) fun q178 => (if q175 = q178.1 then ((fL_law_18 L xs n) (x3 + 9) q178.2) else some (false, q178.2)))) else none) else none) else (if v3 = 18 then (if nv_inb (x3 + 1) L = true then (if nv_inb (x3 + 2) L = true then (if nv_inb (x3 + 3) L = true then (Option.bind (fc_end h (xs (x3 + 1).toNatClampNeg) (xs (x3 + 2).toNatClampNeg) (xs (x3 + 3).toNatClampNeg)) fun q184 => (Option.bind (pm_end q184.2 (xs (x3 + 1).toNatClampNeg) (xs (x3 + 2).toNatClampNeg) (xs (x3 + 3).toNatClampNeg)) fun q188 => (if q184.1 = q188.1 then ((fL_law_18 L xs n) (x3 + 9) q188.2) else some (false, q188.2)))) else none) else none) else none) else (if v3 = 19 then (if nv_inb (x3 + 1) L = true then (if nv_inb (x3 + 2) L = true then (if nv_inb (x3 + 3) L = true then (Option.bind (fc_sure h (xs (x3 + 1).toNatClampNeg) (xs (x3 + 2).toNatClampNeg) (xs (x3 + 3).toNatClampNeg)) fun q194 => (Option.bind (pm_sure q194.2 (xs (x3 + 1).toNatClampNeg) (xs (x3 + 2).toNatClampNeg) (xs (x3 + 3).toNatClampNeg)) fun q198 => (if q194.1 = q198.1 then ((fL_law_18 L xs n) (x3 + 9) q198.2) else some (false, q198.2)))) else none) else none) else none) else (if v3 = 20 then (if nv_inb (x3 + 1) L = true then (if nv_inb (x3 + 2) L = true then (if nv_inb (x3 + 3) L = true then (Option.bind (fc_hangs h (xs (x3 + 1).toNatClampNeg) (xs (x3 + 2).toNatClampNeg) (xs (x3 + 3).toNatClampNeg)) fun q204 => (Option.bind (pm_hangs q204.2 (xs (x3 + 1).toNatClampNeg) (xs (x3 + 2).toNatClampNeg) (xs (x3 + 3).toNatClampNeg)) fun q208 => (if q204.1 = q208.1 then ((fL_law_18 L xs n) (x3 + 9) q208.2) else some (false, q208.2)))) else none) else none) else none) else (if v3 = 21 then (if nv_inb (x3 + 1) L = true then (if nv_inb (x3 + 2) L = true then (Option.bind (fc_wanted h (xs (x3 + 1).toNatClampNeg) (xs (x3 + 2).toNatClampNeg)) fun q213 => (Option.bind (pm_wanted q213.2 (xs (x3 + 1).toNatClampNeg) (xs (x3 + 2).toNatClampNeg)) fun q216 => (if q213.1 = q216.1 then ((fL_law_18 L xs n) (x3 + 9) q216.2) else some (false, q216.2)))) else none) else none) else (if v3 = 22 then (if nv_inb (x3 + 1) L = true then (Option.bind (fc_turned h (xs (x3 + 1).toNatClampNeg)) fun q220 => (Option.bind (pm_turned q220.2 (xs (x3 + 1).toNatClampNeg)) fun q222 => (if q220.1 = q222.1 then ((fL_law_18 L xs n) (x3 + 9) q222.2) else some (false, q222.2)))) else none) else (if v3 = 23 then (if nv_inb (x3 + 1) L = true then (if nv_inb (x3 + 2) L = true then (if nv_inb (x3 + 3) L = true then (if nv_inb (x3 + 4) L = true then (Option.bind (fc_letter h (xs (x3 + 1).toNatClampNeg) (xs (x3 + 2).toNatClampNeg) (xs (x3 + 3).toNatClampNeg) (xs (x3 + 4).toNatClampNeg)) fun q229 => (Option.bind (pm_letter h (xs (x3 + 1).toNatClampNeg) (xs (x3 + 2).toNatClampNeg) (xs (x3 + 3).toNatClampNeg) (xs (x3 + 4).toNatClampNeg)) fun q234 => (if q229 = q234.1 then ((fL_law_18 L xs n) (x3 + 9) q234.2) else some (false, q234.2)))) else none) else none) else none) else none) else (if v3 = 24 then (if nv_inb (x3 + 1) L = true then (if nv_inb (x3 + 2) L = true then (if nv_inb (x3 + 3) L = true then (Option.bind (fc_sheet h (xs (x3 + 1).toNatClampNeg) (xs (x3 + 2).toNatClampNeg) (xs (x3 + 3).toNatClampNeg)) fun q240 => (Option.bind (pm_sheet q240.2 (xs (x3 + 1).toNatClampNeg) (xs (x3 + 2).toNatClampNeg) (xs (x3 + 3).toNatClampNeg)) fun q244 => (if q240.1 = q244.1 then ((fL_law_18 L xs n) (x3 + 9) q244.2) else some (false, q244.2)))) else none) else none) else none) else (if v3 = 25 then (if nv_inb (x3 + 1) L = true then (Option.bind (fc_lose h (xs (x3 + 1).toNatClampNeg)) fun q248 => (Option.bind (pm_lose q248.2 (xs (x3 + 1).toNatClampNeg)) fun q250 => (if q248.1 = q250.1 then ((fL_law_18 L xs n) (x3 + 9) q250.2) else some (false, q250.2)))) else none) else (if v3 = 26 then (if nv_inb (x3 + 1) L = true then (if nv_inb (x3 + 2) L = true then (if nv_inb (x3 + 3) L = true then (if nv_inb (x3 + 4) L = true then (Option.bind (fc_lay h (xs (x3 + 1).toNatClampNeg) (xs (x3 + 2).toNatClampNeg) (xs (x3 + 3).toNatClampNeg) (xs (x3 + 4).toNatClampNeg)) fun q257 => (Option.bind (pm_lay q257.2 (xs (x3 + 1).toNatClampNeg) (xs (x3 + 2).toNatClampNeg) (xs (x3 + 3).toNatClampNeg) (xs (x3 + 4).toNatClampNeg)) fun q262 => (if q257.1 = q262.1 then ((fL_law_18 L xs n) (x3 + 9) q262.2) else some (false, q262.2)))) else none) else none) else none) else none) else (if v3 = 27 then (if nv_inb (x3 + 1) L = true then (if nv_inb (x3 + 2) L = true then (if nv_inb (x3 + 3) L = true then (Option.bind (fc_get h (xs (x3 + 1).toNatClampNeg) (xs (x3 + 2).toNatClampNeg) (xs (x3 + 3).toNatClampNeg)) fun q268 => (Option.bind (pm_get q268.2 (xs (x3 + 1).toNatClampNeg) (xs (x3 + 2).toNatClampNeg) (xs (x3 + 3).toNatClampNeg)) fun q272 => (if q268.1 = q272.1 then ((fL_law_18 L xs n) (x3 + 9) q272.2) else some (false, q272.2)))) else none) else none) else none) else (if v3 = 28 then (if nv_inb (x3 + 1) L = true then (if nv_inb (x3 + 2) L = true then (if nv_inb (x3 + 3) L = true then (if nv_inb (x3 + 4) L = true then (if nv_inb (x3 + 5) L = true then (Option.bind (fc_copy h (xs (x3 + 1).toNatClampNeg) (xs (x3 + 2).toNatClampNeg) (xs (x3 + 3).toNatClampNeg) (xs (x3 + 4).toNatClampNeg) (xs (x3 + 5).toNatClampNeg)) fun q280 => (Option.bind (pm_copy q280.2 (xs (x3 + 1).toNatClampNeg) (xs (x3 + 2).toNatClampNeg) (xs (x3 + 3).toNatClampNeg) (xs (x3 + 4).toNatClampNeg) (xs (x3 + 5).toNatClampNeg)) fun q286 => (if q280.1 = q286.1 then ((fL_law_18 L xs n) (x3 + 9) q286.2) else some (false, q286.2)))) else none) else none) else none) else none) else none) else (if v3 = 29 then (if nv_inb (x3 + 1) L = true then (if nv_inb (x3 + 2) L = true then (Option.bind (fc_write h (xs (x3 + 1).toNatClampNeg) (xs (x3 + 2).toNatClampNeg)) fun q291 => (Option.bind (pm_write q291.2 (xs (x3 + 1).toNatClampNeg) (xs (x3 + 2).toNatClampNeg)) fun q294 => (if q291.1 = q294.1 then ((fL_law_18 L xs n) (x3 + 9) q294.2) else some (false, q294.2)))) else none) else none) else (if v3 = 30 then (if nv_inb (x3 + 1) L = true then (Option.bind (fc_count h (xs (x3 + 1).toNatClampNeg)) fun q298 => (Option.bind (pm_count h (xs (x3 + 1).toNatClampNeg)) fun q300 => (if q298 = q300 then ((fL_law_18 L xs n) (x3 + 9) h) else some (false, h)))) else none) else (if v3 = 31 then (Option.bind (fc_digest h) fun q303 => (Option.bind (pm_digest q303.2) fun q304 => (if (lg_cmp q303.1 q304.1) = 0 then ((fL_law_18 L xs n) (x3 + 9) q304.2) else some (false, q304.2)))) else ((fL_law_18 L xs n) (x3 + 9) h)))))))))))))))))))))))))))))))))) else none))
set_option maxRecDepth 10000 in
set_option maxHeartbeats 8000000 in
theorem tL_law_18 (G : nv_G) (L : Nat) (xs : Nat → Int32) (hL : L = G.2.2.2.2.1) (hxs : xs = G.2.2.2.2.2)    : ∀ (n : Nat) (x3 : Int32) (h : nv_Hp) (r : Bool × nv_Hp), fL_law_18 L xs n x3 h = some r → nv_E G 10 qL_law 18 [some (.ref 1009), some (.ref 0), some (.ref 73), some (.int x3)] [] (nv_s h) (some (.int (nv_bi r.1)), nv_s r.2) := by
  subst hL hxs
  intro n
  induction n with
  | zero =>
    intro x3 h r hf
    rw [fL_law_18] at hf
    cases hf
  | succ n ih =>
    intro x3 h r hf
    rw [fL_law_18] at hf
    refine nv_iL dL_law_18 rfl ?_
    refine nv_aL dL_law_19 rfl ?_
    refine nv_scrN dL_law_20 ?_
    refine nv_k dL_law_21 ?_
    refine nv_isub dL_law_23 ?_
    refine nv_icgt dL_law_24 (fun c1 => ?_) (fun c1 => ?_)
    · replace hf := nv_ip c1 hf
      refine nv_k dL_law_1477 ?_
      obtain rfl := Option.some.inj hf
      exact nv_ireturnB (b := true) dL_law_1478 rfl
    · replace hf := nv_in c1 hf
      refine nv_aL dL_law_27 rfl ?_
      refine nv_iL dL_law_28 rfl ?_
      obtain ⟨g2, hf⟩ := nv_gd hf
      refine nv_scrL dL_law_29 g2 ?_
      refine nv_k dL_law_30 ?_
      refine nv_iand dL_law_32 ?_
      obtain ⟨v3, ev3, hf⟩ := nv_ltX hf
      rw [ev3]
      clear ev3
      by_cases c4 : v3 = 0
      · replace hf := nv_ip c4 hf
        refine nv_switch (tgt := 176) (swL_law_33_0 _ c4) ?_
        refine nv_aL dL_law_176 rfl ?_
        refine nv_aL dL_law_177 rfl ?_
        refine nv_iL dL_law_178 rfl ?_
        refine nv_k dL_law_179 ?_
        refine nv_iadd dL_law_180 ?_
        obtain ⟨g5, hf⟩ := nv_gd hf
        refine nv_scrL dL_law_181 g5 ?_
        refine nv_aL dL_law_182 rfl ?_
        refine nv_iL dL_law_183 rfl ?_
        refine nv_k dL_law_184 ?_
        refine nv_iadd dL_law_185 ?_
        obtain ⟨g6, hf⟩ := nv_gd hf
        refine nv_scrL dL_law_186 g6 ?_
        obtain ⟨q7, hq7, hf⟩ := nv_bd hf
        refine nv_cVi (tc_purse G h (G.2.2.2.2.2 (x3 + 1).toNatClampNeg) (G.2.2.2.2.2 (x3 + 2).toNatClampNeg) hq7) dL_law_187 lm_L_13 y_qX6_purse ko_0 rfl rfl (by decide) rfl (Nat.le_of_ble_eq_true rfl) ?_
        refine nv_aL dL_law_190 rfl ?_
        refine nv_aL dL_law_191 rfl ?_
        refine nv_iL dL_law_192 rfl ?_
        refine nv_k dL_law_193 ?_
        refine nv_iadd dL_law_194 ?_
        refine nv_scrL dL_law_195 g5 ?_
        refine nv_aL dL_law_196 rfl ?_
        refine nv_iL dL_law_197 rfl ?_
        refine nv_k dL_law_198 ?_
        refine nv_iadd dL_law_199 ?_
        refine nv_scrL dL_law_200 g6 ?_
        obtain ⟨q10, hq10, hf⟩ := nv_bd hf
        refine nv_cVi (tm_purse G q7.2 (G.2.2.2.2.2 (x3 + 1).toNatClampNeg) (G.2.2.2.2.2 (x3 + 2).toNatClampNeg) hq10) dL_law_201 lm_L_17 y_qX7_purse ko_73 rfl rfl (by decide) rfl (Nat.le_of_ble_eq_true rfl) ?_
        refine nv_iceq dL_law_204 (fun c11 => ?_) (fun c11 => ?_)
        · replace hf := nv_ip c11 hf
          refine nv_inc dL_law_1471 rfl (v := 9) (by decide) (by decide) rfl rfl ?_
          refine nv_goto dL_law_1474 ?_
          exact ih _ _ _ hf
        · replace hf := nv_in c11 hf
          refine nv_k dL_law_207 ?_
          obtain rfl := Option.some.inj hf
          exact nv_ireturnB (b := false) dL_law_208 rfl
      · replace hf := nv_in c4 hf
        by_cases c12 : v3 = 1
        · replace hf := nv_ip c12 hf
          refine nv_switch (tgt := 209) (swL_law_33_1 _ c12) ?_
          refine nv_aL dL_law_209 rfl ?_
          refine nv_aL dL_law_210 rfl ?_
          refine nv_iL dL_law_211 rfl ?_
          refine nv_k dL_law_212 ?_
          refine nv_iadd dL_law_213 ?_
          obtain ⟨g13, hf⟩ := nv_gd hf
          refine nv_scrL dL_law_214 g13 ?_
          refine nv_aL dL_law_215 rfl ?_
          refine nv_iL dL_law_216 rfl ?_
          refine nv_k dL_law_217 ?_
          refine nv_iadd dL_law_218 ?_
          obtain ⟨g14, hf⟩ := nv_gd hf
          refine nv_scrL dL_law_219 g14 ?_
          refine nv_aL dL_law_220 rfl ?_
          refine nv_iL dL_law_221 rfl ?_
          refine nv_k dL_law_222 ?_
          refine nv_iadd dL_law_223 ?_
          obtain ⟨g15, hf⟩ := nv_gd hf
          refine nv_scrL dL_law_224 g15 ?_
          refine nv_aL dL_law_225 rfl ?_
          refine nv_iL dL_law_226 rfl ?_
          refine nv_k dL_law_227 ?_
          refine nv_iadd dL_law_228 ?_
          obtain ⟨g16, hf⟩ := nv_gd hf
          refine nv_scrL dL_law_229 g16 ?_
          refine nv_aL dL_law_230 rfl ?_
          refine nv_iL dL_law_231 rfl ?_
          refine nv_k dL_law_232 ?_
          refine nv_iadd dL_law_233 ?_
          obtain ⟨g17, hf⟩ := nv_gd hf
          refine nv_scrL dL_law_234 g17 ?_
          refine nv_aL dL_law_235 rfl ?_
          refine nv_iL dL_law_236 rfl ?_
          refine nv_k dL_law_237 ?_
          refine nv_iadd dL_law_239 ?_
          obtain ⟨g18, hf⟩ := nv_gd hf
          refine nv_scrL dL_law_240 g18 ?_
          refine nv_aL dL_law_241 rfl ?_
          refine nv_iL dL_law_242 rfl ?_
          refine nv_k dL_law_243 ?_
          refine nv_iadd dL_law_245 ?_
          obtain ⟨g19, hf⟩ := nv_gd hf
          refine nv_scrL dL_law_246 g19 ?_
          refine nv_aL dL_law_247 rfl ?_
          refine nv_iL dL_law_248 rfl ?_
          refine nv_k dL_law_249 ?_
          refine nv_iadd dL_law_251 ?_
          obtain ⟨g20, hf⟩ := nv_gd hf
          refine nv_scrL dL_law_252 g20 ?_
          obtain ⟨q21, hq21, hf⟩ := nv_bd hf
          refine nv_cVi (tc_leave G h (G.2.2.2.2.2 (x3 + 1).toNatClampNeg) (G.2.2.2.2.2 (x3 + 2).toNatClampNeg) (G.2.2.2.2.2 (x3 + 3).toNatClampNeg) (G.2.2.2.2.2 (x3 + 4).toNatClampNeg) (G.2.2.2.2.2 (x3 + 5).toNatClampNeg) (G.2.2.2.2.2 (x3 + 6).toNatClampNeg) (G.2.2.2.2.2 (x3 + 7).toNatClampNeg) (G.2.2.2.2.2 (x3 + 8).toNatClampNeg) hq21) dL_law_253 lm_L_18 y_qX6_leave ko_0 rfl rfl (by decide) rfl (Nat.le_of_ble_eq_true rfl) ?_
          refine nv_aL dL_law_256 rfl ?_
          refine nv_aL dL_law_257 rfl ?_
          refine nv_iL dL_law_258 rfl ?_
          refine nv_k dL_law_259 ?_
          refine nv_iadd dL_law_260 ?_
          refine nv_scrL dL_law_261 g13 ?_
          refine nv_aL dL_law_262 rfl ?_
          refine nv_iL dL_law_263 rfl ?_
          refine nv_k dL_law_264 ?_
          refine nv_iadd dL_law_265 ?_
          refine nv_scrL dL_law_266 g14 ?_
          refine nv_aL dL_law_267 rfl ?_
          refine nv_iL dL_law_268 rfl ?_
          refine nv_k dL_law_269 ?_
          refine nv_iadd dL_law_270 ?_
          refine nv_scrL dL_law_271 g15 ?_
          refine nv_aL dL_law_272 rfl ?_
          refine nv_iL dL_law_273 rfl ?_
          refine nv_k dL_law_274 ?_
          refine nv_iadd dL_law_275 ?_
          refine nv_scrL dL_law_276 g16 ?_
          refine nv_aL dL_law_277 rfl ?_
          refine nv_iL dL_law_278 rfl ?_
          refine nv_k dL_law_279 ?_
          refine nv_iadd dL_law_280 ?_
          refine nv_scrL dL_law_281 g17 ?_
          refine nv_aL dL_law_282 rfl ?_
          refine nv_iL dL_law_283 rfl ?_
          refine nv_k dL_law_284 ?_
          refine nv_iadd dL_law_286 ?_
          refine nv_scrL dL_law_287 g18 ?_
          refine nv_aL dL_law_288 rfl ?_
          refine nv_iL dL_law_289 rfl ?_
          refine nv_k dL_law_290 ?_
          refine nv_iadd dL_law_292 ?_
          refine nv_scrL dL_law_293 g19 ?_
          refine nv_aL dL_law_294 rfl ?_
          refine nv_iL dL_law_295 rfl ?_
          refine nv_k dL_law_296 ?_
          refine nv_iadd dL_law_298 ?_
          refine nv_scrL dL_law_299 g20 ?_
          obtain ⟨q30, hq30, hf⟩ := nv_bd hf
          refine nv_cVi (tm_leave G q21.2 (G.2.2.2.2.2 (x3 + 1).toNatClampNeg) (G.2.2.2.2.2 (x3 + 2).toNatClampNeg) (G.2.2.2.2.2 (x3 + 3).toNatClampNeg) (G.2.2.2.2.2 (x3 + 4).toNatClampNeg) (G.2.2.2.2.2 (x3 + 5).toNatClampNeg) (G.2.2.2.2.2 (x3 + 6).toNatClampNeg) (G.2.2.2.2.2 (x3 + 7).toNatClampNeg) (G.2.2.2.2.2 (x3 + 8).toNatClampNeg) hq30) dL_law_300 lm_L_22 y_qX7_leave ko_73 rfl rfl (by decide) rfl (Nat.le_of_ble_eq_true rfl) ?_
          refine nv_iceq dL_law_303 (fun c31 => ?_) (fun c31 => ?_)
          · replace hf := nv_ip c31 hf
            refine nv_inc dL_law_1471 rfl (v := 9) (by decide) (by decide) rfl rfl ?_
            refine nv_goto dL_law_1474 ?_
            exact ih _ _ _ hf
          · replace hf := nv_in c31 hf
            refine nv_k dL_law_306 ?_
            obtain rfl := Option.some.inj hf
            exact nv_ireturnB (b := false) dL_law_307 rfl
        · replace hf := nv_in c12 hf
          by_cases c32 : v3 = 2
          · replace hf := nv_ip c32 hf
            refine nv_switch (tgt := 308) (swL_law_33_2 _ c32) ?_
            refine nv_aL dL_law_308 rfl ?_
            refine nv_aL dL_law_309 rfl ?_
            refine nv_iL dL_law_310 rfl ?_
            refine nv_k dL_law_311 ?_
            refine nv_iadd dL_law_312 ?_
            obtain ⟨g33, hf⟩ := nv_gd hf
            refine nv_scrL dL_law_313 g33 ?_
            refine nv_aL dL_law_314 rfl ?_
            refine nv_iL dL_law_315 rfl ?_
            refine nv_k dL_law_316 ?_
            refine nv_iadd dL_law_317 ?_
            obtain ⟨g34, hf⟩ := nv_gd hf
            refine nv_scrL dL_law_318 g34 ?_
            refine nv_aL dL_law_319 rfl ?_
            refine nv_iL dL_law_320 rfl ?_
            refine nv_k dL_law_321 ?_
            refine nv_iadd dL_law_322 ?_
            obtain ⟨g35, hf⟩ := nv_gd hf
            refine nv_scrL dL_law_323 g35 ?_
            refine nv_aL dL_law_324 rfl ?_
            refine nv_iL dL_law_325 rfl ?_
            refine nv_k dL_law_326 ?_
            refine nv_iadd dL_law_327 ?_
            obtain ⟨g36, hf⟩ := nv_gd hf
            refine nv_scrL dL_law_328 g36 ?_
            obtain ⟨q37, hq37, hf⟩ := nv_bd hf
            refine nv_cVi (tc_back G h (G.2.2.2.2.2 (x3 + 1).toNatClampNeg) (G.2.2.2.2.2 (x3 + 2).toNatClampNeg) (G.2.2.2.2.2 (x3 + 3).toNatClampNeg) (G.2.2.2.2.2 (x3 + 4).toNatClampNeg) hq37) dL_law_329 lm_L_23 y_qX6_back ko_0 rfl rfl (by decide) rfl (Nat.le_of_ble_eq_true rfl) ?_
            refine nv_aL dL_law_332 rfl ?_
            refine nv_aL dL_law_333 rfl ?_
            refine nv_iL dL_law_334 rfl ?_
            refine nv_k dL_law_335 ?_
            refine nv_iadd dL_law_336 ?_
            refine nv_scrL dL_law_337 g33 ?_
            refine nv_aL dL_law_338 rfl ?_
            refine nv_iL dL_law_339 rfl ?_
            refine nv_k dL_law_340 ?_
            refine nv_iadd dL_law_341 ?_
            refine nv_scrL dL_law_342 g34 ?_
            refine nv_aL dL_law_343 rfl ?_
            refine nv_iL dL_law_344 rfl ?_
            refine nv_k dL_law_345 ?_
            refine nv_iadd dL_law_346 ?_
            refine nv_scrL dL_law_347 g35 ?_
            refine nv_aL dL_law_348 rfl ?_
            refine nv_iL dL_law_349 rfl ?_
            refine nv_k dL_law_350 ?_
            refine nv_iadd dL_law_351 ?_
            refine nv_scrL dL_law_352 g36 ?_
            obtain ⟨q42, hq42, hf⟩ := nv_bd hf
            refine nv_cVi (tm_back G q37.2 (G.2.2.2.2.2 (x3 + 1).toNatClampNeg) (G.2.2.2.2.2 (x3 + 2).toNatClampNeg) (G.2.2.2.2.2 (x3 + 3).toNatClampNeg) (G.2.2.2.2.2 (x3 + 4).toNatClampNeg) hq42) dL_law_353 lm_L_27 y_qX7_back ko_73 rfl rfl (by decide) rfl (Nat.le_of_ble_eq_true rfl) ?_
            refine nv_iceq dL_law_356 (fun c43 => ?_) (fun c43 => ?_)
            · replace hf := nv_ip c43 hf
              refine nv_inc dL_law_1471 rfl (v := 9) (by decide) (by decide) rfl rfl ?_
              refine nv_goto dL_law_1474 ?_
              exact ih _ _ _ hf
            · replace hf := nv_in c43 hf
              refine nv_k dL_law_359 ?_
              obtain rfl := Option.some.inj hf
              exact nv_ireturnB (b := false) dL_law_360 rfl
          · replace hf := nv_in c32 hf
            by_cases c44 : v3 = 3
            · replace hf := nv_ip c44 hf
              refine nv_switch (tgt := 361) (swL_law_33_3 _ c44) ?_
              refine nv_aL dL_law_361 rfl ?_
              refine nv_aL dL_law_362 rfl ?_
              refine nv_iL dL_law_363 rfl ?_
              refine nv_k dL_law_364 ?_
              refine nv_iadd dL_law_365 ?_
              obtain ⟨g45, hf⟩ := nv_gd hf
              refine nv_scrL dL_law_366 g45 ?_
              refine nv_aL dL_law_367 rfl ?_
              refine nv_iL dL_law_368 rfl ?_
              refine nv_k dL_law_369 ?_
              refine nv_iadd dL_law_370 ?_
              obtain ⟨g46, hf⟩ := nv_gd hf
              refine nv_scrL dL_law_371 g46 ?_
              obtain ⟨q47, hq47, hf⟩ := nv_bd hf
              refine nv_cVi (tc_heard G h (G.2.2.2.2.2 (x3 + 1).toNatClampNeg) (G.2.2.2.2.2 (x3 + 2).toNatClampNeg) hq47) dL_law_372 lm_L_28 y_qX6_heard ko_0 rfl rfl (by decide) rfl (Nat.le_of_ble_eq_true rfl) ?_
              refine nv_aL dL_law_375 rfl ?_
              refine nv_aL dL_law_376 rfl ?_
              refine nv_iL dL_law_377 rfl ?_
              refine nv_k dL_law_378 ?_
              refine nv_iadd dL_law_379 ?_
              refine nv_scrL dL_law_380 g45 ?_
              refine nv_aL dL_law_381 rfl ?_
              refine nv_iL dL_law_382 rfl ?_
              refine nv_k dL_law_383 ?_
              refine nv_iadd dL_law_384 ?_
              refine nv_scrL dL_law_385 g46 ?_
              obtain ⟨q50, hq50, hf⟩ := nv_bd hf
              refine nv_cVi (tm_heard G q47.2 (G.2.2.2.2.2 (x3 + 1).toNatClampNeg) (G.2.2.2.2.2 (x3 + 2).toNatClampNeg) hq50) dL_law_386 lm_L_31 y_qX7_heard ko_73 rfl rfl (by decide) rfl (Nat.le_of_ble_eq_true rfl) ?_
              refine nv_iceq dL_law_389 (fun c51 => ?_) (fun c51 => ?_)
              · replace hf := nv_ip c51 hf
                refine nv_inc dL_law_1471 rfl (v := 9) (by decide) (by decide) rfl rfl ?_
                refine nv_goto dL_law_1474 ?_
                exact ih _ _ _ hf
              · replace hf := nv_in c51 hf
                refine nv_k dL_law_392 ?_
                obtain rfl := Option.some.inj hf
                exact nv_ireturnB (b := false) dL_law_393 rfl
            · replace hf := nv_in c44 hf
              by_cases c52 : v3 = 4
              · replace hf := nv_ip c52 hf
                refine nv_switch (tgt := 394) (swL_law_33_4 _ c52) ?_
                refine nv_aL dL_law_394 rfl ?_
                refine nv_aL dL_law_395 rfl ?_
                refine nv_iL dL_law_396 rfl ?_
                refine nv_k dL_law_397 ?_
                refine nv_iadd dL_law_398 ?_
                obtain ⟨g53, hf⟩ := nv_gd hf
                refine nv_scrL dL_law_399 g53 ?_
                refine nv_aL dL_law_400 rfl ?_
                refine nv_iL dL_law_401 rfl ?_
                refine nv_k dL_law_402 ?_
                refine nv_iadd dL_law_403 ?_
                obtain ⟨g54, hf⟩ := nv_gd hf
                refine nv_scrL dL_law_404 g54 ?_
                refine nv_aL dL_law_405 rfl ?_
                refine nv_iL dL_law_406 rfl ?_
                refine nv_k dL_law_407 ?_
                refine nv_iadd dL_law_408 ?_
                obtain ⟨g55, hf⟩ := nv_gd hf
                refine nv_scrL dL_law_409 g55 ?_
                refine nv_aL dL_law_410 rfl ?_
                refine nv_iL dL_law_411 rfl ?_
                refine nv_k dL_law_412 ?_
                refine nv_iadd dL_law_413 ?_
                obtain ⟨g56, hf⟩ := nv_gd hf
                refine nv_scrL dL_law_414 g56 ?_
                refine nv_aL dL_law_415 rfl ?_
                refine nv_iL dL_law_416 rfl ?_
                refine nv_k dL_law_417 ?_
                refine nv_iadd dL_law_418 ?_
                obtain ⟨g57, hf⟩ := nv_gd hf
                refine nv_scrL dL_law_419 g57 ?_
                refine nv_aL dL_law_420 rfl ?_
                refine nv_iL dL_law_421 rfl ?_
                refine nv_k dL_law_422 ?_
                refine nv_iadd dL_law_424 ?_
                obtain ⟨g58, hf⟩ := nv_gd hf
                refine nv_scrL dL_law_425 g58 ?_
                obtain ⟨q59, hq59, hf⟩ := nv_bd hf
                refine nv_cVi (tc_bargain G h (G.2.2.2.2.2 (x3 + 1).toNatClampNeg) (G.2.2.2.2.2 (x3 + 2).toNatClampNeg) (G.2.2.2.2.2 (x3 + 3).toNatClampNeg) (G.2.2.2.2.2 (x3 + 4).toNatClampNeg) (G.2.2.2.2.2 (x3 + 5).toNatClampNeg) (G.2.2.2.2.2 (x3 + 6).toNatClampNeg) hq59) dL_law_426 lm_L_32 y_qX6_bargain ko_0 rfl rfl (by decide) rfl (Nat.le_of_ble_eq_true rfl) ?_
                refine nv_aL dL_law_429 rfl ?_
                refine nv_aL dL_law_430 rfl ?_
                refine nv_iL dL_law_431 rfl ?_
                refine nv_k dL_law_432 ?_
                refine nv_iadd dL_law_433 ?_
                refine nv_scrL dL_law_434 g53 ?_
                refine nv_aL dL_law_435 rfl ?_
                refine nv_iL dL_law_436 rfl ?_
                refine nv_k dL_law_437 ?_
                refine nv_iadd dL_law_438 ?_
                refine nv_scrL dL_law_439 g54 ?_
                refine nv_aL dL_law_440 rfl ?_
                refine nv_iL dL_law_441 rfl ?_
                refine nv_k dL_law_442 ?_
                refine nv_iadd dL_law_443 ?_
                refine nv_scrL dL_law_444 g55 ?_
                refine nv_aL dL_law_445 rfl ?_
                refine nv_iL dL_law_446 rfl ?_
                refine nv_k dL_law_447 ?_
                refine nv_iadd dL_law_448 ?_
                refine nv_scrL dL_law_449 g56 ?_
                refine nv_aL dL_law_450 rfl ?_
                refine nv_iL dL_law_451 rfl ?_
                refine nv_k dL_law_452 ?_
                refine nv_iadd dL_law_453 ?_
                refine nv_scrL dL_law_454 g57 ?_
                refine nv_aL dL_law_455 rfl ?_
                refine nv_iL dL_law_456 rfl ?_
                refine nv_k dL_law_457 ?_
                refine nv_iadd dL_law_459 ?_
                refine nv_scrL dL_law_460 g58 ?_
                obtain ⟨q66, hq66, hf⟩ := nv_bd hf
                refine nv_cVi (tm_bargain G q59.2 (G.2.2.2.2.2 (x3 + 1).toNatClampNeg) (G.2.2.2.2.2 (x3 + 2).toNatClampNeg) (G.2.2.2.2.2 (x3 + 3).toNatClampNeg) (G.2.2.2.2.2 (x3 + 4).toNatClampNeg) (G.2.2.2.2.2 (x3 + 5).toNatClampNeg) (G.2.2.2.2.2 (x3 + 6).toNatClampNeg) hq66) dL_law_461 lm_L_36 y_qX7_bargain ko_73 rfl rfl (by decide) rfl (Nat.le_of_ble_eq_true rfl) ?_
                refine nv_iceq dL_law_464 (fun c67 => ?_) (fun c67 => ?_)
                · replace hf := nv_ip c67 hf
                  refine nv_inc dL_law_1471 rfl (v := 9) (by decide) (by decide) rfl rfl ?_
                  refine nv_goto dL_law_1474 ?_
                  exact ih _ _ _ hf
                · replace hf := nv_in c67 hf
                  refine nv_k dL_law_467 ?_
                  obtain rfl := Option.some.inj hf
                  exact nv_ireturnB (b := false) dL_law_468 rfl
              · replace hf := nv_in c52 hf
                by_cases c68 : v3 = 5
                · replace hf := nv_ip c68 hf
                  refine nv_switch (tgt := 469) (swL_law_33_5 _ c68) ?_
                  refine nv_aL dL_law_469 rfl ?_
                  refine nv_aL dL_law_470 rfl ?_
                  refine nv_iL dL_law_471 rfl ?_
                  refine nv_k dL_law_472 ?_
                  refine nv_iadd dL_law_473 ?_
                  obtain ⟨g69, hf⟩ := nv_gd hf
                  refine nv_scrL dL_law_474 g69 ?_
                  obtain ⟨q70, hq70, hf⟩ := nv_bd hf
                  refine nv_cVi (tc_read G h (G.2.2.2.2.2 (x3 + 1).toNatClampNeg) hq70) dL_law_475 lm_L_37 y_qX6_read ko_0 rfl rfl (by decide) rfl (Nat.le_of_ble_eq_true rfl) ?_
                  refine nv_aL dL_law_478 rfl ?_
                  refine nv_aL dL_law_479 rfl ?_
                  refine nv_iL dL_law_480 rfl ?_
                  refine nv_k dL_law_481 ?_
                  refine nv_iadd dL_law_482 ?_
                  refine nv_scrL dL_law_483 g69 ?_
                  obtain ⟨q72, hq72, hf⟩ := nv_bd hf
                  refine nv_cVi (tm_read G q70.2 (G.2.2.2.2.2 (x3 + 1).toNatClampNeg) hq72) dL_law_484 lm_L_41 y_qX7_read ko_73 rfl rfl (by decide) rfl (Nat.le_of_ble_eq_true rfl) ?_
                  refine nv_iceq dL_law_487 (fun c73 => ?_) (fun c73 => ?_)
                  · replace hf := nv_ip c73 hf
                    refine nv_inc dL_law_1471 rfl (v := 9) (by decide) (by decide) rfl rfl ?_
                    refine nv_goto dL_law_1474 ?_
                    exact ih _ _ _ hf
                  · replace hf := nv_in c73 hf
                    refine nv_k dL_law_490 ?_
                    obtain rfl := Option.some.inj hf
                    exact nv_ireturnB (b := false) dL_law_491 rfl
                · replace hf := nv_in c68 hf
                  by_cases c74 : v3 = 6
                  · replace hf := nv_ip c74 hf
                    refine nv_switch (tgt := 492) (swL_law_33_6 _ c74) ?_
                    refine nv_aL dL_law_492 rfl ?_
                    refine nv_aL dL_law_493 rfl ?_
                    refine nv_iL dL_law_494 rfl ?_
                    refine nv_k dL_law_495 ?_
                    refine nv_iadd dL_law_496 ?_
                    obtain ⟨g75, hf⟩ := nv_gd hf
                    refine nv_scrL dL_law_497 g75 ?_
                    refine nv_aL dL_law_498 rfl ?_
                    refine nv_iL dL_law_499 rfl ?_
                    refine nv_k dL_law_500 ?_
                    refine nv_iadd dL_law_501 ?_
                    obtain ⟨g76, hf⟩ := nv_gd hf
                    refine nv_scrL dL_law_502 g76 ?_
                    refine nv_aL dL_law_503 rfl ?_
                    refine nv_iL dL_law_504 rfl ?_
                    refine nv_k dL_law_505 ?_
                    refine nv_iadd dL_law_506 ?_
                    obtain ⟨g77, hf⟩ := nv_gd hf
                    refine nv_scrL dL_law_507 g77 ?_
                    refine nv_aL dL_law_508 rfl ?_
                    refine nv_iL dL_law_509 rfl ?_
                    refine nv_k dL_law_510 ?_
                    refine nv_iadd dL_law_511 ?_
                    obtain ⟨g78, hf⟩ := nv_gd hf
                    refine nv_scrL dL_law_512 g78 ?_
                    refine nv_aL dL_law_513 rfl ?_
                    refine nv_iL dL_law_514 rfl ?_
                    refine nv_k dL_law_515 ?_
                    refine nv_iadd dL_law_516 ?_
                    obtain ⟨g79, hf⟩ := nv_gd hf
                    refine nv_scrL dL_law_517 g79 ?_
                    obtain ⟨q80, hq80, hf⟩ := nv_bd hf
                    refine nv_cVi (tc_after G h (G.2.2.2.2.2 (x3 + 1).toNatClampNeg) (G.2.2.2.2.2 (x3 + 2).toNatClampNeg) (G.2.2.2.2.2 (x3 + 3).toNatClampNeg) (G.2.2.2.2.2 (x3 + 4).toNatClampNeg) (G.2.2.2.2.2 (x3 + 5).toNatClampNeg) hq80) dL_law_518 lm_L_42 y_qX6_after ko_0 rfl rfl (by decide) rfl (Nat.le_of_ble_eq_true rfl) ?_
                    refine nv_aL dL_law_521 rfl ?_
                    refine nv_aL dL_law_522 rfl ?_
                    refine nv_iL dL_law_523 rfl ?_
                    refine nv_k dL_law_524 ?_
                    refine nv_iadd dL_law_525 ?_
                    refine nv_scrL dL_law_526 g75 ?_
                    refine nv_aL dL_law_527 rfl ?_
                    refine nv_iL dL_law_528 rfl ?_
                    refine nv_k dL_law_529 ?_
                    refine nv_iadd dL_law_530 ?_
                    refine nv_scrL dL_law_531 g76 ?_
                    refine nv_aL dL_law_532 rfl ?_
                    refine nv_iL dL_law_533 rfl ?_
                    refine nv_k dL_law_534 ?_
                    refine nv_iadd dL_law_535 ?_
                    refine nv_scrL dL_law_536 g77 ?_
                    refine nv_aL dL_law_537 rfl ?_
                    refine nv_iL dL_law_538 rfl ?_
                    refine nv_k dL_law_539 ?_
                    refine nv_iadd dL_law_540 ?_
                    refine nv_scrL dL_law_541 g78 ?_
                    refine nv_aL dL_law_542 rfl ?_
                    refine nv_iL dL_law_543 rfl ?_
                    refine nv_k dL_law_544 ?_
                    refine nv_iadd dL_law_545 ?_
                    refine nv_scrL dL_law_546 g79 ?_
                    obtain ⟨q86, hq86, hf⟩ := nv_bd hf
                    refine nv_cVi (tm_after G q80.2 (G.2.2.2.2.2 (x3 + 1).toNatClampNeg) (G.2.2.2.2.2 (x3 + 2).toNatClampNeg) (G.2.2.2.2.2 (x3 + 3).toNatClampNeg) (G.2.2.2.2.2 (x3 + 4).toNatClampNeg) (G.2.2.2.2.2 (x3 + 5).toNatClampNeg) hq86) dL_law_547 lm_L_46 y_qX7_after ko_73 rfl rfl (by decide) rfl (Nat.le_of_ble_eq_true rfl) ?_
                    refine nv_iceq dL_law_550 (fun c87 => ?_) (fun c87 => ?_)
                    · replace hf := nv_ip c87 hf
                      refine nv_inc dL_law_1471 rfl (v := 9) (by decide) (by decide) rfl rfl ?_
                      refine nv_goto dL_law_1474 ?_
                      exact ih _ _ _ hf
                    · replace hf := nv_in c87 hf
                      refine nv_k dL_law_553 ?_
                      obtain rfl := Option.some.inj hf
                      exact nv_ireturnB (b := false) dL_law_554 rfl
                  · replace hf := nv_in c74 hf
                    by_cases c88 : v3 = 7
                    · replace hf := nv_ip c88 hf
                      refine nv_switch (tgt := 555) (swL_law_33_7 _ c88) ?_
                      refine nv_aL dL_law_555 rfl ?_
                      refine nv_aL dL_law_556 rfl ?_
                      refine nv_iL dL_law_557 rfl ?_
                      refine nv_k dL_law_558 ?_
                      refine nv_iadd dL_law_559 ?_
                      obtain ⟨g89, hf⟩ := nv_gd hf
                      refine nv_scrL dL_law_560 g89 ?_
                      refine nv_aL dL_law_561 rfl ?_
                      refine nv_iL dL_law_562 rfl ?_
                      refine nv_k dL_law_563 ?_
                      refine nv_iadd dL_law_564 ?_
                      obtain ⟨g90, hf⟩ := nv_gd hf
                      refine nv_scrL dL_law_565 g90 ?_
                      obtain ⟨q91, hq91, hf⟩ := nv_bd hf
                      refine nv_cVi (tc_leaveIs G h (G.2.2.2.2.2 (x3 + 1).toNatClampNeg) (G.2.2.2.2.2 (x3 + 2).toNatClampNeg) hq91) dL_law_566 lm_L_47 y_qX6_leaveIs ko_0 rfl rfl (by decide) rfl (Nat.le_of_ble_eq_true rfl) ?_
                      refine nv_aL dL_law_569 rfl ?_
                      refine nv_aL dL_law_570 rfl ?_
                      refine nv_iL dL_law_571 rfl ?_
                      refine nv_k dL_law_572 ?_
                      refine nv_iadd dL_law_573 ?_
                      refine nv_scrL dL_law_574 g89 ?_
                      refine nv_aL dL_law_575 rfl ?_
                      refine nv_iL dL_law_576 rfl ?_
                      refine nv_k dL_law_577 ?_
                      refine nv_iadd dL_law_578 ?_
                      refine nv_scrL dL_law_579 g90 ?_
                      obtain ⟨q94, hq94, hf⟩ := nv_bd hf
                      refine nv_cVi (tm_leaveIs G h (G.2.2.2.2.2 (x3 + 1).toNatClampNeg) (G.2.2.2.2.2 (x3 + 2).toNatClampNeg) hq94) dL_law_580 lm_L_50 y_qX7_leaveIs ko_73 rfl rfl (by decide) rfl (Nat.le_of_ble_eq_true rfl) ?_
                      refine nv_iceq dL_law_583 (fun c95 => ?_) (fun c95 => ?_)
                      · replace hf := nv_ip c95 hf
                        refine nv_inc dL_law_1471 rfl (v := 9) (by decide) (by decide) rfl rfl ?_
                        refine nv_goto dL_law_1474 ?_
                        exact ih _ _ _ hf
                      · replace hf := nv_in c95 hf
                        refine nv_k dL_law_586 ?_
                        obtain rfl := Option.some.inj hf
                        exact nv_ireturnB (b := false) dL_law_587 rfl
                    · replace hf := nv_in c88 hf
                      by_cases c96 : v3 = 8
                      · replace hf := nv_ip c96 hf
                        refine nv_switch (tgt := 588) (swL_law_33_8 _ c96) ?_
                        refine nv_aL dL_law_588 rfl ?_
                        refine nv_aL dL_law_589 rfl ?_
                        refine nv_iL dL_law_590 rfl ?_
                        refine nv_k dL_law_591 ?_
                        refine nv_iadd dL_law_592 ?_
                        obtain ⟨g97, hf⟩ := nv_gd hf
                        refine nv_scrL dL_law_593 g97 ?_
                        refine nv_aL dL_law_594 rfl ?_
                        refine nv_iL dL_law_595 rfl ?_
                        refine nv_k dL_law_596 ?_
                        refine nv_iadd dL_law_597 ?_
                        obtain ⟨g98, hf⟩ := nv_gd hf
                        refine nv_scrL dL_law_598 g98 ?_
                        obtain ⟨q99, hq99, hf⟩ := nv_bd hf
                        refine nv_cVi (tc_bargainIs G h (G.2.2.2.2.2 (x3 + 1).toNatClampNeg) (G.2.2.2.2.2 (x3 + 2).toNatClampNeg) hq99) dL_law_599 lm_L_51 y_qX6_bargainIs ko_0 rfl rfl (by decide) rfl (Nat.le_of_ble_eq_true rfl) ?_
                        refine nv_aL dL_law_602 rfl ?_
                        refine nv_aL dL_law_603 rfl ?_
                        refine nv_iL dL_law_604 rfl ?_
                        refine nv_k dL_law_605 ?_
                        refine nv_iadd dL_law_606 ?_
                        refine nv_scrL dL_law_607 g97 ?_
                        refine nv_aL dL_law_608 rfl ?_
                        refine nv_iL dL_law_609 rfl ?_
                        refine nv_k dL_law_610 ?_
                        refine nv_iadd dL_law_611 ?_
                        refine nv_scrL dL_law_612 g98 ?_
                        obtain ⟨q102, hq102, hf⟩ := nv_bd hf
                        refine nv_cVi (tm_bargainIs G h (G.2.2.2.2.2 (x3 + 1).toNatClampNeg) (G.2.2.2.2.2 (x3 + 2).toNatClampNeg) hq102) dL_law_613 lm_L_54 y_qX7_bargainIs ko_73 rfl rfl (by decide) rfl (Nat.le_of_ble_eq_true rfl) ?_
                        refine nv_iceq dL_law_616 (fun c103 => ?_) (fun c103 => ?_)
                        · replace hf := nv_ip c103 hf
                          refine nv_inc dL_law_1471 rfl (v := 9) (by decide) (by decide) rfl rfl ?_
                          refine nv_goto dL_law_1474 ?_
                          exact ih _ _ _ hf
                        · replace hf := nv_in c103 hf
                          refine nv_k dL_law_619 ?_
                          obtain rfl := Option.some.inj hf
                          exact nv_ireturnB (b := false) dL_law_620 rfl
                      · replace hf := nv_in c96 hf
                        by_cases c104 : v3 = 9
                        · replace hf := nv_ip c104 hf
                          refine nv_switch (tgt := 621) (swL_law_33_9 _ c104) ?_
                          refine nv_aL dL_law_621 rfl ?_
                          refine nv_aL dL_law_622 rfl ?_
                          refine nv_iL dL_law_623 rfl ?_
                          refine nv_k dL_law_624 ?_
                          refine nv_iadd dL_law_625 ?_
                          obtain ⟨g105, hf⟩ := nv_gd hf
                          refine nv_scrL dL_law_626 g105 ?_
                          refine nv_aL dL_law_627 rfl ?_
                          refine nv_iL dL_law_628 rfl ?_
                          refine nv_k dL_law_629 ?_
                          refine nv_iadd dL_law_630 ?_
                          obtain ⟨g106, hf⟩ := nv_gd hf
                          refine nv_scrL dL_law_631 g106 ?_
                          obtain ⟨q107, hq107, hf⟩ := nv_bd hf
                          refine nv_cVi (tc_type G h (G.2.2.2.2.2 (x3 + 1).toNatClampNeg) (G.2.2.2.2.2 (x3 + 2).toNatClampNeg) hq107) dL_law_632 lm_L_55 y_qX6_type ko_0 rfl rfl (by decide) rfl (Nat.le_of_ble_eq_true rfl) ?_
                          refine nv_aL dL_law_635 rfl ?_
                          refine nv_aL dL_law_636 rfl ?_
                          refine nv_iL dL_law_637 rfl ?_
                          refine nv_k dL_law_638 ?_
                          refine nv_iadd dL_law_639 ?_
                          refine nv_scrL dL_law_640 g105 ?_
                          refine nv_aL dL_law_641 rfl ?_
                          refine nv_iL dL_law_642 rfl ?_
                          refine nv_k dL_law_643 ?_
                          refine nv_iadd dL_law_644 ?_
                          refine nv_scrL dL_law_645 g106 ?_
                          obtain ⟨q110, hq110, hf⟩ := nv_bd hf
                          refine nv_cVi (tm_type G q107.2 (G.2.2.2.2.2 (x3 + 1).toNatClampNeg) (G.2.2.2.2.2 (x3 + 2).toNatClampNeg) hq110) dL_law_646 lm_L_58 y_qX7_type ko_73 rfl rfl (by decide) rfl (Nat.le_of_ble_eq_true rfl) ?_
                          refine nv_iceq dL_law_649 (fun c111 => ?_) (fun c111 => ?_)
                          · replace hf := nv_ip c111 hf
                            refine nv_inc dL_law_1471 rfl (v := 9) (by decide) (by decide) rfl rfl ?_
                            refine nv_goto dL_law_1474 ?_
                            exact ih _ _ _ hf
                          · replace hf := nv_in c111 hf
                            refine nv_k dL_law_652 ?_
                            obtain rfl := Option.some.inj hf
                            exact nv_ireturnB (b := false) dL_law_653 rfl
                        · replace hf := nv_in c104 hf
                          by_cases c112 : v3 = 10
                          · replace hf := nv_ip c112 hf
                            refine nv_switch (tgt := 654) (swL_law_33_10 _ c112) ?_
                            refine nv_aL dL_law_654 rfl ?_
                            refine nv_aL dL_law_655 rfl ?_
                            refine nv_iL dL_law_656 rfl ?_
                            refine nv_k dL_law_657 ?_
                            refine nv_iadd dL_law_658 ?_
                            obtain ⟨g113, hf⟩ := nv_gd hf
                            refine nv_scrL dL_law_659 g113 ?_
                            obtain ⟨q114, hq114, hf⟩ := nv_bd hf
                            refine nv_cVi (tc_wipe G h (G.2.2.2.2.2 (x3 + 1).toNatClampNeg) hq114) dL_law_660 lm_L_59 y_qX6_wipe ko_0 rfl rfl (by decide) rfl (Nat.le_of_ble_eq_true rfl) ?_
                            refine nv_aL dL_law_663 rfl ?_
                            refine nv_aL dL_law_664 rfl ?_
                            refine nv_iL dL_law_665 rfl ?_
                            refine nv_k dL_law_666 ?_
                            refine nv_iadd dL_law_667 ?_
                            refine nv_scrL dL_law_668 g113 ?_
                            obtain ⟨q116, hq116, hf⟩ := nv_bd hf
                            refine nv_cVi (tm_wipe G q114.2 (G.2.2.2.2.2 (x3 + 1).toNatClampNeg) hq116) dL_law_669 lm_L_62 y_qX7_wipe ko_73 rfl rfl (by decide) rfl (Nat.le_of_ble_eq_true rfl) ?_
                            refine nv_iceq dL_law_672 (fun c117 => ?_) (fun c117 => ?_)
                            · replace hf := nv_ip c117 hf
                              refine nv_inc dL_law_1471 rfl (v := 9) (by decide) (by decide) rfl rfl ?_
                              refine nv_goto dL_law_1474 ?_
                              exact ih _ _ _ hf
                            · replace hf := nv_in c117 hf
                              refine nv_k dL_law_675 ?_
                              obtain rfl := Option.some.inj hf
                              exact nv_ireturnB (b := false) dL_law_676 rfl
                          · replace hf := nv_in c112 hf
                            by_cases c118 : v3 = 11
                            · replace hf := nv_ip c118 hf
                              refine nv_switch (tgt := 677) (swL_law_33_11 _ c118) ?_
                              refine nv_aL dL_law_677 rfl ?_
                              refine nv_aL dL_law_678 rfl ?_
                              refine nv_iL dL_law_679 rfl ?_
                              refine nv_k dL_law_680 ?_
                              refine nv_iadd dL_law_681 ?_
                              obtain ⟨g119, hf⟩ := nv_gd hf
                              refine nv_scrL dL_law_682 g119 ?_
                              obtain ⟨q120, hq120, hf⟩ := nv_bd hf
                              refine nv_cVi (tc_fault G h (G.2.2.2.2.2 (x3 + 1).toNatClampNeg) hq120) dL_law_683 lm_L_63 y_qX6_fault ko_0 rfl rfl (by decide) rfl (Nat.le_of_ble_eq_true rfl) ?_
                              refine nv_aL dL_law_686 rfl ?_
                              refine nv_aL dL_law_687 rfl ?_
                              refine nv_iL dL_law_688 rfl ?_
                              refine nv_k dL_law_689 ?_
                              refine nv_iadd dL_law_690 ?_
                              refine nv_scrL dL_law_691 g119 ?_
                              obtain ⟨q122, hq122, hf⟩ := nv_bd hf
                              refine nv_cVi (tm_fault G h (G.2.2.2.2.2 (x3 + 1).toNatClampNeg) hq122) dL_law_692 lm_L_66 y_qX7_fault ko_73 rfl rfl (by decide) rfl (Nat.le_of_ble_eq_true rfl) ?_
                              refine nv_iceq dL_law_695 (fun c123 => ?_) (fun c123 => ?_)
                              · replace hf := nv_ip c123 hf
                                refine nv_inc dL_law_1471 rfl (v := 9) (by decide) (by decide) rfl rfl ?_
                                refine nv_goto dL_law_1474 ?_
                                exact ih _ _ _ hf
                              · replace hf := nv_in c123 hf
                                refine nv_k dL_law_698 ?_
                                obtain rfl := Option.some.inj hf
                                exact nv_ireturnB (b := false) dL_law_699 rfl
                            · replace hf := nv_in c118 hf
                              by_cases c124 : v3 = 12
                              · replace hf := nv_ip c124 hf
                                refine nv_switch (tgt := 700) (swL_law_33_12 _ c124) ?_
                                refine nv_aL dL_law_700 rfl ?_
                                refine nv_aL dL_law_701 rfl ?_
                                refine nv_iL dL_law_702 rfl ?_
                                refine nv_k dL_law_703 ?_
                                refine nv_iadd dL_law_704 ?_
                                obtain ⟨g125, hf⟩ := nv_gd hf
                                refine nv_scrL dL_law_705 g125 ?_
                                refine nv_aL dL_law_706 rfl ?_
                                refine nv_iL dL_law_707 rfl ?_
                                refine nv_k dL_law_708 ?_
                                refine nv_iadd dL_law_709 ?_
                                obtain ⟨g126, hf⟩ := nv_gd hf
                                refine nv_scrL dL_law_710 g126 ?_
                                obtain ⟨q127, hq127, hf⟩ := nv_bd hf
                                refine nv_cVi (tc_law G h (G.2.2.2.2.2 (x3 + 1).toNatClampNeg) (G.2.2.2.2.2 (x3 + 2).toNatClampNeg) hq127) dL_law_711 lm_L_67 y_qX6_law ko_0 rfl rfl (by decide) rfl (Nat.le_of_ble_eq_true rfl) ?_
                                refine nv_aL dL_law_714 rfl ?_
                                refine nv_aL dL_law_715 rfl ?_
                                refine nv_iL dL_law_716 rfl ?_
                                refine nv_k dL_law_717 ?_
                                refine nv_iadd dL_law_718 ?_
                                refine nv_scrL dL_law_719 g125 ?_
                                refine nv_aL dL_law_720 rfl ?_
                                refine nv_iL dL_law_721 rfl ?_
                                refine nv_k dL_law_722 ?_
                                refine nv_iadd dL_law_723 ?_
                                refine nv_scrL dL_law_724 g126 ?_
                                obtain ⟨q130, hq130, hf⟩ := nv_bd hf
                                refine nv_cVi (tm_law G h (G.2.2.2.2.2 (x3 + 1).toNatClampNeg) (G.2.2.2.2.2 (x3 + 2).toNatClampNeg) hq130) dL_law_725 lm_L_70 y_qX7_law ko_73 rfl rfl (by decide) rfl (Nat.le_of_ble_eq_true rfl) ?_
                                refine nv_iceq dL_law_728 (fun c131 => ?_) (fun c131 => ?_)
                                · replace hf := nv_ip c131 hf
                                  refine nv_inc dL_law_1471 rfl (v := 9) (by decide) (by decide) rfl rfl ?_
                                  refine nv_goto dL_law_1474 ?_
                                  exact ih _ _ _ hf
                                · replace hf := nv_in c131 hf
                                  refine nv_k dL_law_731 ?_
                                  obtain rfl := Option.some.inj hf
                                  exact nv_ireturnB (b := false) dL_law_732 rfl
                              · replace hf := nv_in c124 hf
                                by_cases c132 : v3 = 13
                                · replace hf := nv_ip c132 hf
                                  refine nv_switch (tgt := 733) (swL_law_33_13 _ c132) ?_
                                  refine nv_aL dL_law_733 rfl ?_
                                  refine nv_aL dL_law_734 rfl ?_
                                  refine nv_iL dL_law_735 rfl ?_
                                  refine nv_k dL_law_736 ?_
                                  refine nv_iadd dL_law_737 ?_
                                  obtain ⟨g133, hf⟩ := nv_gd hf
                                  refine nv_scrL dL_law_738 g133 ?_
                                  refine nv_aL dL_law_739 rfl ?_
                                  refine nv_iL dL_law_740 rfl ?_
                                  refine nv_k dL_law_741 ?_
                                  refine nv_iadd dL_law_742 ?_
                                  obtain ⟨g134, hf⟩ := nv_gd hf
                                  refine nv_scrL dL_law_743 g134 ?_
                                  refine nv_aL dL_law_744 rfl ?_
                                  refine nv_iL dL_law_745 rfl ?_
                                  refine nv_k dL_law_746 ?_
                                  refine nv_iadd dL_law_747 ?_
                                  obtain ⟨g135, hf⟩ := nv_gd hf
                                  refine nv_scrL dL_law_748 g135 ?_
                                  refine nv_aL dL_law_749 rfl ?_
                                  refine nv_iL dL_law_750 rfl ?_
                                  refine nv_k dL_law_751 ?_
                                  refine nv_iadd dL_law_752 ?_
                                  obtain ⟨g136, hf⟩ := nv_gd hf
                                  refine nv_scrL dL_law_753 g136 ?_
                                  obtain ⟨q137, hq137, hf⟩ := nv_bd hf
                                  refine nv_cVi (tc_reaches G h (G.2.2.2.2.2 (x3 + 1).toNatClampNeg) (G.2.2.2.2.2 (x3 + 2).toNatClampNeg) (G.2.2.2.2.2 (x3 + 3).toNatClampNeg) (G.2.2.2.2.2 (x3 + 4).toNatClampNeg) hq137) dL_law_754 lm_L_71 y_qX6_reaches ko_0 rfl rfl (by decide) rfl (Nat.le_of_ble_eq_true rfl) ?_
                                  refine nv_aL dL_law_757 rfl ?_
                                  refine nv_aL dL_law_758 rfl ?_
                                  refine nv_iL dL_law_759 rfl ?_
                                  refine nv_k dL_law_760 ?_
                                  refine nv_iadd dL_law_761 ?_
                                  refine nv_scrL dL_law_762 g133 ?_
                                  refine nv_aL dL_law_763 rfl ?_
                                  refine nv_iL dL_law_764 rfl ?_
                                  refine nv_k dL_law_765 ?_
                                  refine nv_iadd dL_law_766 ?_
                                  refine nv_scrL dL_law_767 g134 ?_
                                  refine nv_aL dL_law_768 rfl ?_
                                  refine nv_iL dL_law_769 rfl ?_
                                  refine nv_k dL_law_770 ?_
                                  refine nv_iadd dL_law_771 ?_
                                  refine nv_scrL dL_law_772 g135 ?_
                                  refine nv_aL dL_law_773 rfl ?_
                                  refine nv_iL dL_law_774 rfl ?_
                                  refine nv_k dL_law_775 ?_
                                  refine nv_iadd dL_law_776 ?_
                                  refine nv_scrL dL_law_777 g136 ?_
                                  obtain ⟨q142, hq142, hf⟩ := nv_bd hf
                                  refine nv_cVi (tm_reaches G h (G.2.2.2.2.2 (x3 + 1).toNatClampNeg) (G.2.2.2.2.2 (x3 + 2).toNatClampNeg) (G.2.2.2.2.2 (x3 + 3).toNatClampNeg) (G.2.2.2.2.2 (x3 + 4).toNatClampNeg) hq142) dL_law_778 lm_L_74 y_qX7_reaches ko_73 rfl rfl (by decide) rfl (Nat.le_of_ble_eq_true rfl) ?_
                                  refine nv_iceq dL_law_781 (fun c143 => ?_) (fun c143 => ?_)
                                  · replace hf := nv_ip c143 hf
                                    refine nv_inc dL_law_1471 rfl (v := 9) (by decide) (by decide) rfl rfl ?_
                                    refine nv_goto dL_law_1474 ?_
                                    exact ih _ _ _ hf
                                  · replace hf := nv_in c143 hf
                                    refine nv_k dL_law_784 ?_
                                    obtain rfl := Option.some.inj hf
                                    exact nv_ireturnB (b := false) dL_law_785 rfl
                                · replace hf := nv_in c132 hf
                                  by_cases c144 : v3 = 14
                                  · replace hf := nv_ip c144 hf
                                    refine nv_switch (tgt := 786) (swL_law_33_14 _ c144) ?_
                                    refine nv_aL dL_law_786 rfl ?_
                                    refine nv_aL dL_law_787 rfl ?_
                                    refine nv_iL dL_law_788 rfl ?_
                                    refine nv_k dL_law_789 ?_
                                    refine nv_iadd dL_law_790 ?_
                                    obtain ⟨g145, hf⟩ := nv_gd hf
                                    refine nv_scrL dL_law_791 g145 ?_
                                    refine nv_aL dL_law_792 rfl ?_
                                    refine nv_iL dL_law_793 rfl ?_
                                    refine nv_k dL_law_794 ?_
                                    refine nv_iadd dL_law_795 ?_
                                    obtain ⟨g146, hf⟩ := nv_gd hf
                                    refine nv_scrL dL_law_796 g146 ?_
                                    refine nv_aL dL_law_797 rfl ?_
                                    refine nv_iL dL_law_798 rfl ?_
                                    refine nv_k dL_law_799 ?_
                                    refine nv_iadd dL_law_800 ?_
                                    obtain ⟨g147, hf⟩ := nv_gd hf
                                    refine nv_scrL dL_law_801 g147 ?_
                                    obtain ⟨q148, hq148, hf⟩ := nv_bd hf
                                    refine nv_cVi (tc_bound G h (G.2.2.2.2.2 (x3 + 1).toNatClampNeg) (G.2.2.2.2.2 (x3 + 2).toNatClampNeg) (G.2.2.2.2.2 (x3 + 3).toNatClampNeg) hq148) dL_law_802 lm_L_75 y_qX6_bound ko_0 rfl rfl (by decide) rfl (Nat.le_of_ble_eq_true rfl) ?_
                                    refine nv_aL dL_law_805 rfl ?_
                                    refine nv_aL dL_law_806 rfl ?_
                                    refine nv_iL dL_law_807 rfl ?_
                                    refine nv_k dL_law_808 ?_
                                    refine nv_iadd dL_law_809 ?_
                                    refine nv_scrL dL_law_810 g145 ?_
                                    refine nv_aL dL_law_811 rfl ?_
                                    refine nv_iL dL_law_812 rfl ?_
                                    refine nv_k dL_law_813 ?_
                                    refine nv_iadd dL_law_814 ?_
                                    refine nv_scrL dL_law_815 g146 ?_
                                    refine nv_aL dL_law_816 rfl ?_
                                    refine nv_iL dL_law_817 rfl ?_
                                    refine nv_k dL_law_818 ?_
                                    refine nv_iadd dL_law_819 ?_
                                    refine nv_scrL dL_law_820 g147 ?_
                                    obtain ⟨q152, hq152, hf⟩ := nv_bd hf
                                    refine nv_cVi (tm_bound G h (G.2.2.2.2.2 (x3 + 1).toNatClampNeg) (G.2.2.2.2.2 (x3 + 2).toNatClampNeg) (G.2.2.2.2.2 (x3 + 3).toNatClampNeg) hq152) dL_law_821 lm_L_79 y_qX7_bound ko_73 rfl rfl (by decide) rfl (Nat.le_of_ble_eq_true rfl) ?_
                                    refine nv_iceq dL_law_824 (fun c153 => ?_) (fun c153 => ?_)
                                    · replace hf := nv_ip c153 hf
                                      refine nv_inc dL_law_1471 rfl (v := 9) (by decide) (by decide) rfl rfl ?_
                                      refine nv_goto dL_law_1474 ?_
                                      exact ih _ _ _ hf
                                    · replace hf := nv_in c153 hf
                                      refine nv_k dL_law_827 ?_
                                      obtain rfl := Option.some.inj hf
                                      exact nv_ireturnB (b := false) dL_law_828 rfl
                                  · replace hf := nv_in c144 hf
                                    by_cases c154 : v3 = 15
                                    · replace hf := nv_ip c154 hf
                                      refine nv_switch (tgt := 829) (swL_law_33_15 _ c154) ?_
                                      refine nv_aL dL_law_829 rfl ?_
                                      refine nv_aL dL_law_830 rfl ?_
                                      refine nv_iL dL_law_831 rfl ?_
                                      refine nv_k dL_law_832 ?_
                                      refine nv_iadd dL_law_833 ?_
                                      obtain ⟨g155, hf⟩ := nv_gd hf
                                      refine nv_scrL dL_law_834 g155 ?_
                                      refine nv_aL dL_law_835 rfl ?_
                                      refine nv_iL dL_law_836 rfl ?_
                                      refine nv_k dL_law_837 ?_
                                      refine nv_iadd dL_law_838 ?_
                                      obtain ⟨g156, hf⟩ := nv_gd hf
                                      refine nv_scrL dL_law_839 g156 ?_
                                      obtain ⟨q157, hq157, hf⟩ := nv_bd hf
                                      refine nv_cVi (tc_till G h (G.2.2.2.2.2 (x3 + 1).toNatClampNeg) (G.2.2.2.2.2 (x3 + 2).toNatClampNeg) hq157) dL_law_840 lm_L_80 y_qX6_till ko_0 rfl rfl (by decide) rfl (Nat.le_of_ble_eq_true rfl) ?_
                                      refine nv_aL dL_law_843 rfl ?_
                                      refine nv_aL dL_law_844 rfl ?_
                                      refine nv_iL dL_law_845 rfl ?_
                                      refine nv_k dL_law_846 ?_
                                      refine nv_iadd dL_law_847 ?_
                                      refine nv_scrL dL_law_848 g155 ?_
                                      refine nv_aL dL_law_849 rfl ?_
                                      refine nv_iL dL_law_850 rfl ?_
                                      refine nv_k dL_law_851 ?_
                                      refine nv_iadd dL_law_852 ?_
                                      refine nv_scrL dL_law_853 g156 ?_
                                      obtain ⟨q160, hq160, hf⟩ := nv_bd hf
                                      refine nv_cVi (tm_till G h (G.2.2.2.2.2 (x3 + 1).toNatClampNeg) (G.2.2.2.2.2 (x3 + 2).toNatClampNeg) hq160) dL_law_854 lm_L_83 y_qX7_till ko_73 rfl rfl (by decide) rfl (Nat.le_of_ble_eq_true rfl) ?_
                                      refine nv_iceq dL_law_857 (fun c161 => ?_) (fun c161 => ?_)
                                      · replace hf := nv_ip c161 hf
                                        refine nv_inc dL_law_1471 rfl (v := 9) (by decide) (by decide) rfl rfl ?_
                                        refine nv_goto dL_law_1474 ?_
                                        exact ih _ _ _ hf
                                      · replace hf := nv_in c161 hf
                                        refine nv_k dL_law_860 ?_
                                        obtain rfl := Option.some.inj hf
                                        exact nv_ireturnB (b := false) dL_law_861 rfl
                                    · replace hf := nv_in c154 hf
                                      by_cases c162 : v3 = 16
                                      · replace hf := nv_ip c162 hf
                                        refine nv_switch (tgt := 862) (swL_law_33_16 _ c162) ?_
                                        refine nv_aL dL_law_862 rfl ?_
                                        refine nv_aL dL_law_863 rfl ?_
                                        refine nv_iL dL_law_864 rfl ?_
                                        refine nv_k dL_law_865 ?_
                                        refine nv_iadd dL_law_866 ?_
                                        obtain ⟨g163, hf⟩ := nv_gd hf
                                        refine nv_scrL dL_law_867 g163 ?_
                                        refine nv_aL dL_law_868 rfl ?_
                                        refine nv_iL dL_law_869 rfl ?_
                                        refine nv_k dL_law_870 ?_
                                        refine nv_iadd dL_law_871 ?_
                                        obtain ⟨g164, hf⟩ := nv_gd hf
                                        refine nv_scrL dL_law_872 g164 ?_
                                        refine nv_aL dL_law_873 rfl ?_
                                        refine nv_iL dL_law_874 rfl ?_
                                        refine nv_k dL_law_875 ?_
                                        refine nv_iadd dL_law_876 ?_
                                        obtain ⟨g165, hf⟩ := nv_gd hf
                                        refine nv_scrL dL_law_877 g165 ?_
                                        obtain ⟨q166, hq166, hf⟩ := nv_bd hf
                                        refine nv_cVi (tc_ask G h (G.2.2.2.2.2 (x3 + 1).toNatClampNeg) (G.2.2.2.2.2 (x3 + 2).toNatClampNeg) (G.2.2.2.2.2 (x3 + 3).toNatClampNeg) hq166) dL_law_878 lm_L_84 y_qX6_ask ko_0 rfl rfl (by decide) rfl (Nat.le_of_ble_eq_true rfl) ?_
                                        refine nv_aL dL_law_881 rfl ?_
                                        refine nv_aL dL_law_882 rfl ?_
                                        refine nv_iL dL_law_883 rfl ?_
                                        refine nv_k dL_law_884 ?_
                                        refine nv_iadd dL_law_885 ?_
                                        refine nv_scrL dL_law_886 g163 ?_
                                        refine nv_aL dL_law_887 rfl ?_
                                        refine nv_iL dL_law_888 rfl ?_
                                        refine nv_k dL_law_889 ?_
                                        refine nv_iadd dL_law_890 ?_
                                        refine nv_scrL dL_law_891 g164 ?_
                                        refine nv_aL dL_law_892 rfl ?_
                                        refine nv_iL dL_law_893 rfl ?_
                                        refine nv_k dL_law_894 ?_
                                        refine nv_iadd dL_law_895 ?_
                                        refine nv_scrL dL_law_896 g165 ?_
                                        obtain ⟨q170, hq170, hf⟩ := nv_bd hf
                                        refine nv_cVi (tm_ask G h (G.2.2.2.2.2 (x3 + 1).toNatClampNeg) (G.2.2.2.2.2 (x3 + 2).toNatClampNeg) (G.2.2.2.2.2 (x3 + 3).toNatClampNeg) hq170) dL_law_897 lm_L_87 y_qX7_ask ko_73 rfl rfl (by decide) rfl (Nat.le_of_ble_eq_true rfl) ?_
                                        refine nv_iceq dL_law_900 (fun c171 => ?_) (fun c171 => ?_)
                                        · replace hf := nv_ip c171 hf
                                          refine nv_inc dL_law_1471 rfl (v := 9) (by decide) (by decide) rfl rfl ?_
                                          refine nv_goto dL_law_1474 ?_
                                          exact ih _ _ _ hf
                                        · replace hf := nv_in c171 hf
                                          refine nv_k dL_law_903 ?_
                                          obtain rfl := Option.some.inj hf
                                          exact nv_ireturnB (b := false) dL_law_904 rfl
                                      · replace hf := nv_in c162 hf
                                        by_cases c172 : v3 = 17
                                        · replace hf := nv_ip c172 hf
                                          refine nv_switch (tgt := 905) (swL_law_33_17 _ c172) ?_
                                          refine nv_aL dL_law_905 rfl ?_
                                          refine nv_aL dL_law_906 rfl ?_
                                          refine nv_iL dL_law_907 rfl ?_
                                          refine nv_k dL_law_908 ?_
                                          refine nv_iadd dL_law_909 ?_
                                          obtain ⟨g173, hf⟩ := nv_gd hf
                                          refine nv_scrL dL_law_910 g173 ?_
                                          refine nv_aL dL_law_911 rfl ?_
                                          refine nv_iL dL_law_912 rfl ?_
                                          refine nv_k dL_law_913 ?_
                                          refine nv_iadd dL_law_914 ?_
                                          obtain ⟨g174, hf⟩ := nv_gd hf
                                          refine nv_scrL dL_law_915 g174 ?_
                                          obtain ⟨q175, hq175, hf⟩ := nv_bd hf
                                          refine nv_cVi (tc_owes G h (G.2.2.2.2.2 (x3 + 1).toNatClampNeg) (G.2.2.2.2.2 (x3 + 2).toNatClampNeg) hq175) dL_law_916 lm_L_88 y_qX6_owes ko_0 rfl rfl (by decide) rfl (Nat.le_of_ble_eq_true rfl) ?_
                                          refine nv_aL dL_law_919 rfl ?_
                                          refine nv_aL dL_law_920 rfl ?_
                                          refine nv_iL dL_law_921 rfl ?_
                                          refine nv_k dL_law_922 ?_
                                          refine nv_iadd dL_law_923 ?_
                                          refine nv_scrL dL_law_924 g173 ?_
                                          refine nv_aL dL_law_925 rfl ?_
                                          refine nv_iL dL_law_926 rfl ?_
                                          refine nv_k dL_law_927 ?_
                                          refine nv_iadd dL_law_928 ?_
                                          refine nv_scrL dL_law_929 g174 ?_
                                          obtain ⟨q178, hq178, hf⟩ := nv_bd hf
                                          refine nv_cVi (tm_owes G h (G.2.2.2.2.2 (x3 + 1).toNatClampNeg) (G.2.2.2.2.2 (x3 + 2).toNatClampNeg) hq178) dL_law_930 lm_L_91 y_qX7_owes ko_73 rfl rfl (by decide) rfl (Nat.le_of_ble_eq_true rfl) ?_
                                          refine nv_iceq dL_law_933 (fun c179 => ?_) (fun c179 => ?_)
                                          · replace hf := nv_ip c179 hf
                                            refine nv_inc dL_law_1471 rfl (v := 9) (by decide) (by decide) rfl rfl ?_
                                            refine nv_goto dL_law_1474 ?_
                                            exact ih _ _ _ hf
                                          · replace hf := nv_in c179 hf
                                            refine nv_k dL_law_936 ?_
                                            obtain rfl := Option.some.inj hf
                                            exact nv_ireturnB (b := false) dL_law_937 rfl
                                        · replace hf := nv_in c172 hf
                                          by_cases c180 : v3 = 18
                                          · replace hf := nv_ip c180 hf
                                            refine nv_switch (tgt := 938) (swL_law_33_18 _ c180) ?_
                                            refine nv_aL dL_law_938 rfl ?_
                                            refine nv_aL dL_law_939 rfl ?_
                                            refine nv_iL dL_law_940 rfl ?_
                                            refine nv_k dL_law_941 ?_
                                            refine nv_iadd dL_law_942 ?_
                                            obtain ⟨g181, hf⟩ := nv_gd hf
                                            refine nv_scrL dL_law_943 g181 ?_
                                            refine nv_aL dL_law_944 rfl ?_
                                            refine nv_iL dL_law_945 rfl ?_
                                            refine nv_k dL_law_946 ?_
                                            refine nv_iadd dL_law_947 ?_
                                            obtain ⟨g182, hf⟩ := nv_gd hf
                                            refine nv_scrL dL_law_948 g182 ?_
                                            refine nv_aL dL_law_949 rfl ?_
                                            refine nv_iL dL_law_950 rfl ?_
                                            refine nv_k dL_law_951 ?_
                                            refine nv_iadd dL_law_952 ?_
                                            obtain ⟨g183, hf⟩ := nv_gd hf
                                            refine nv_scrL dL_law_953 g183 ?_
                                            obtain ⟨q184, hq184, hf⟩ := nv_bd hf
                                            refine nv_cVi (tc_end G h (G.2.2.2.2.2 (x3 + 1).toNatClampNeg) (G.2.2.2.2.2 (x3 + 2).toNatClampNeg) (G.2.2.2.2.2 (x3 + 3).toNatClampNeg) hq184) dL_law_954 lm_L_92 y_qX6_end ko_0 rfl rfl (by decide) rfl (Nat.le_of_ble_eq_true rfl) ?_
                                            refine nv_aL dL_law_957 rfl ?_
                                            refine nv_aL dL_law_958 rfl ?_
                                            refine nv_iL dL_law_959 rfl ?_
                                            refine nv_k dL_law_960 ?_
                                            refine nv_iadd dL_law_961 ?_
                                            refine nv_scrL dL_law_962 g181 ?_
                                            refine nv_aL dL_law_963 rfl ?_
                                            refine nv_iL dL_law_964 rfl ?_
                                            refine nv_k dL_law_965 ?_
                                            refine nv_iadd dL_law_966 ?_
                                            refine nv_scrL dL_law_967 g182 ?_
                                            refine nv_aL dL_law_968 rfl ?_
                                            refine nv_iL dL_law_969 rfl ?_
                                            refine nv_k dL_law_970 ?_
                                            refine nv_iadd dL_law_971 ?_
                                            refine nv_scrL dL_law_972 g183 ?_
                                            obtain ⟨q188, hq188, hf⟩ := nv_bd hf
                                            refine nv_cVi (tm_end G q184.2 (G.2.2.2.2.2 (x3 + 1).toNatClampNeg) (G.2.2.2.2.2 (x3 + 2).toNatClampNeg) (G.2.2.2.2.2 (x3 + 3).toNatClampNeg) hq188) dL_law_973 lm_L_95 y_qX7_end ko_73 rfl rfl (by decide) rfl (Nat.le_of_ble_eq_true rfl) ?_
                                            refine nv_iceq dL_law_976 (fun c189 => ?_) (fun c189 => ?_)
                                            · replace hf := nv_ip c189 hf
                                              refine nv_inc dL_law_1471 rfl (v := 9) (by decide) (by decide) rfl rfl ?_
                                              refine nv_goto dL_law_1474 ?_
                                              exact ih _ _ _ hf
                                            · replace hf := nv_in c189 hf
                                              refine nv_k dL_law_979 ?_
                                              obtain rfl := Option.some.inj hf
                                              exact nv_ireturnB (b := false) dL_law_980 rfl
                                          · replace hf := nv_in c180 hf
                                            by_cases c190 : v3 = 19
                                            · replace hf := nv_ip c190 hf
                                              refine nv_switch (tgt := 981) (swL_law_33_19 _ c190) ?_
                                              refine nv_aL dL_law_981 rfl ?_
                                              refine nv_aL dL_law_982 rfl ?_
                                              refine nv_iL dL_law_983 rfl ?_
                                              refine nv_k dL_law_984 ?_
                                              refine nv_iadd dL_law_985 ?_
                                              obtain ⟨g191, hf⟩ := nv_gd hf
                                              refine nv_scrL dL_law_986 g191 ?_
                                              refine nv_aL dL_law_987 rfl ?_
                                              refine nv_iL dL_law_988 rfl ?_
                                              refine nv_k dL_law_989 ?_
                                              refine nv_iadd dL_law_990 ?_
                                              obtain ⟨g192, hf⟩ := nv_gd hf
                                              refine nv_scrL dL_law_991 g192 ?_
                                              refine nv_aL dL_law_992 rfl ?_
                                              refine nv_iL dL_law_993 rfl ?_
                                              refine nv_k dL_law_994 ?_
                                              refine nv_iadd dL_law_995 ?_
                                              obtain ⟨g193, hf⟩ := nv_gd hf
                                              refine nv_scrL dL_law_996 g193 ?_
                                              obtain ⟨q194, hq194, hf⟩ := nv_bd hf
                                              refine nv_cVi (tc_sure G h (G.2.2.2.2.2 (x3 + 1).toNatClampNeg) (G.2.2.2.2.2 (x3 + 2).toNatClampNeg) (G.2.2.2.2.2 (x3 + 3).toNatClampNeg) hq194) dL_law_997 lm_L_96 y_qX6_sure ko_0 rfl rfl (by decide) rfl (Nat.le_of_ble_eq_true rfl) ?_
                                              refine nv_aL dL_law_1000 rfl ?_
                                              refine nv_aL dL_law_1001 rfl ?_
                                              refine nv_iL dL_law_1002 rfl ?_
                                              refine nv_k dL_law_1003 ?_
                                              refine nv_iadd dL_law_1004 ?_
                                              refine nv_scrL dL_law_1005 g191 ?_
                                              refine nv_aL dL_law_1006 rfl ?_
                                              refine nv_iL dL_law_1007 rfl ?_
                                              refine nv_k dL_law_1008 ?_
                                              refine nv_iadd dL_law_1009 ?_
                                              refine nv_scrL dL_law_1010 g192 ?_
                                              refine nv_aL dL_law_1011 rfl ?_
                                              refine nv_iL dL_law_1012 rfl ?_
                                              refine nv_k dL_law_1013 ?_
                                              refine nv_iadd dL_law_1014 ?_
                                              refine nv_scrL dL_law_1015 g193 ?_
                                              obtain ⟨q198, hq198, hf⟩ := nv_bd hf
                                              refine nv_cVi (tm_sure G q194.2 (G.2.2.2.2.2 (x3 + 1).toNatClampNeg) (G.2.2.2.2.2 (x3 + 2).toNatClampNeg) (G.2.2.2.2.2 (x3 + 3).toNatClampNeg) hq198) dL_law_1016 lm_L_99 y_qX7_sure ko_73 rfl rfl (by decide) rfl (Nat.le_of_ble_eq_true rfl) ?_
                                              refine nv_iceq dL_law_1019 (fun c199 => ?_) (fun c199 => ?_)
                                              · replace hf := nv_ip c199 hf
                                                refine nv_inc dL_law_1471 rfl (v := 9) (by decide) (by decide) rfl rfl ?_
                                                refine nv_goto dL_law_1474 ?_
                                                exact ih _ _ _ hf
                                              · replace hf := nv_in c199 hf
                                                refine nv_k dL_law_1022 ?_
                                                obtain rfl := Option.some.inj hf
                                                exact nv_ireturnB (b := false) dL_law_1023 rfl
                                            · replace hf := nv_in c190 hf
                                              by_cases c200 : v3 = 20
                                              · replace hf := nv_ip c200 hf
                                                refine nv_switch (tgt := 1024) (swL_law_33_20 _ c200) ?_
                                                refine nv_aL dL_law_1024 rfl ?_
                                                refine nv_aL dL_law_1025 rfl ?_
                                                refine nv_iL dL_law_1026 rfl ?_
                                                refine nv_k dL_law_1027 ?_
                                                refine nv_iadd dL_law_1028 ?_
                                                obtain ⟨g201, hf⟩ := nv_gd hf
                                                refine nv_scrL dL_law_1029 g201 ?_
                                                refine nv_aL dL_law_1030 rfl ?_
                                                refine nv_iL dL_law_1031 rfl ?_
                                                refine nv_k dL_law_1032 ?_
                                                refine nv_iadd dL_law_1033 ?_
                                                obtain ⟨g202, hf⟩ := nv_gd hf
                                                refine nv_scrL dL_law_1034 g202 ?_
                                                refine nv_aL dL_law_1035 rfl ?_
                                                refine nv_iL dL_law_1036 rfl ?_
                                                refine nv_k dL_law_1037 ?_
                                                refine nv_iadd dL_law_1038 ?_
                                                obtain ⟨g203, hf⟩ := nv_gd hf
                                                refine nv_scrL dL_law_1039 g203 ?_
                                                obtain ⟨q204, hq204, hf⟩ := nv_bd hf
                                                refine nv_cVi (tc_hangs G h (G.2.2.2.2.2 (x3 + 1).toNatClampNeg) (G.2.2.2.2.2 (x3 + 2).toNatClampNeg) (G.2.2.2.2.2 (x3 + 3).toNatClampNeg) hq204) dL_law_1040 lm_L_100 y_qX6_hangs ko_0 rfl rfl (by decide) rfl (Nat.le_of_ble_eq_true rfl) ?_
                                                refine nv_aL dL_law_1043 rfl ?_
                                                refine nv_aL dL_law_1044 rfl ?_
                                                refine nv_iL dL_law_1045 rfl ?_
                                                refine nv_k dL_law_1046 ?_
                                                refine nv_iadd dL_law_1047 ?_
                                                refine nv_scrL dL_law_1048 g201 ?_
                                                refine nv_aL dL_law_1049 rfl ?_
                                                refine nv_iL dL_law_1050 rfl ?_
                                                refine nv_k dL_law_1051 ?_
                                                refine nv_iadd dL_law_1052 ?_
                                                refine nv_scrL dL_law_1053 g202 ?_
                                                refine nv_aL dL_law_1054 rfl ?_
                                                refine nv_iL dL_law_1055 rfl ?_
                                                refine nv_k dL_law_1056 ?_
                                                refine nv_iadd dL_law_1057 ?_
                                                refine nv_scrL dL_law_1058 g203 ?_
                                                obtain ⟨q208, hq208, hf⟩ := nv_bd hf
                                                refine nv_cVi (tm_hangs G q204.2 (G.2.2.2.2.2 (x3 + 1).toNatClampNeg) (G.2.2.2.2.2 (x3 + 2).toNatClampNeg) (G.2.2.2.2.2 (x3 + 3).toNatClampNeg) hq208) dL_law_1059 lm_L_103 y_qX7_hangs ko_73 rfl rfl (by decide) rfl (Nat.le_of_ble_eq_true rfl) ?_
                                                refine nv_iceq dL_law_1062 (fun c209 => ?_) (fun c209 => ?_)
                                                · replace hf := nv_ip c209 hf
                                                  refine nv_inc dL_law_1471 rfl (v := 9) (by decide) (by decide) rfl rfl ?_
                                                  refine nv_goto dL_law_1474 ?_
                                                  exact ih _ _ _ hf
                                                · replace hf := nv_in c209 hf
                                                  refine nv_k dL_law_1065 ?_
                                                  obtain rfl := Option.some.inj hf
                                                  exact nv_ireturnB (b := false) dL_law_1066 rfl
                                              · replace hf := nv_in c200 hf
                                                by_cases c210 : v3 = 21
                                                · replace hf := nv_ip c210 hf
                                                  refine nv_switch (tgt := 1067) (swL_law_33_21 _ c210) ?_
                                                  refine nv_aL dL_law_1067 rfl ?_
                                                  refine nv_aL dL_law_1068 rfl ?_
                                                  refine nv_iL dL_law_1069 rfl ?_
                                                  refine nv_k dL_law_1070 ?_
                                                  refine nv_iadd dL_law_1071 ?_
                                                  obtain ⟨g211, hf⟩ := nv_gd hf
                                                  refine nv_scrL dL_law_1072 g211 ?_
                                                  refine nv_aL dL_law_1073 rfl ?_
                                                  refine nv_iL dL_law_1074 rfl ?_
                                                  refine nv_k dL_law_1075 ?_
                                                  refine nv_iadd dL_law_1076 ?_
                                                  obtain ⟨g212, hf⟩ := nv_gd hf
                                                  refine nv_scrL dL_law_1077 g212 ?_
                                                  obtain ⟨q213, hq213, hf⟩ := nv_bd hf
                                                  refine nv_cVi (tc_wanted G h (G.2.2.2.2.2 (x3 + 1).toNatClampNeg) (G.2.2.2.2.2 (x3 + 2).toNatClampNeg) hq213) dL_law_1078 lm_L_104 y_qX6_wanted ko_0 rfl rfl (by decide) rfl (Nat.le_of_ble_eq_true rfl) ?_
                                                  refine nv_aL dL_law_1081 rfl ?_
                                                  refine nv_aL dL_law_1082 rfl ?_
                                                  refine nv_iL dL_law_1083 rfl ?_
                                                  refine nv_k dL_law_1084 ?_
                                                  refine nv_iadd dL_law_1085 ?_
                                                  refine nv_scrL dL_law_1086 g211 ?_
                                                  refine nv_aL dL_law_1087 rfl ?_
                                                  refine nv_iL dL_law_1088 rfl ?_
                                                  refine nv_k dL_law_1089 ?_
                                                  refine nv_iadd dL_law_1090 ?_
                                                  refine nv_scrL dL_law_1091 g212 ?_
                                                  obtain ⟨q216, hq216, hf⟩ := nv_bd hf
                                                  refine nv_cVi (tm_wanted G q213.2 (G.2.2.2.2.2 (x3 + 1).toNatClampNeg) (G.2.2.2.2.2 (x3 + 2).toNatClampNeg) hq216) dL_law_1092 lm_L_107 y_qX7_wanted ko_73 rfl rfl (by decide) rfl (Nat.le_of_ble_eq_true rfl) ?_
                                                  refine nv_iceq dL_law_1095 (fun c217 => ?_) (fun c217 => ?_)
                                                  · replace hf := nv_ip c217 hf
                                                    refine nv_inc dL_law_1471 rfl (v := 9) (by decide) (by decide) rfl rfl ?_
                                                    refine nv_goto dL_law_1474 ?_
                                                    exact ih _ _ _ hf
                                                  · replace hf := nv_in c217 hf
                                                    refine nv_k dL_law_1098 ?_
                                                    obtain rfl := Option.some.inj hf
                                                    exact nv_ireturnB (b := false) dL_law_1099 rfl
                                                · replace hf := nv_in c210 hf
                                                  by_cases c218 : v3 = 22
                                                  · replace hf := nv_ip c218 hf
                                                    refine nv_switch (tgt := 1100) (swL_law_33_22 _ c218) ?_
                                                    refine nv_aL dL_law_1100 rfl ?_
                                                    refine nv_aL dL_law_1101 rfl ?_
                                                    refine nv_iL dL_law_1102 rfl ?_
                                                    refine nv_k dL_law_1103 ?_
                                                    refine nv_iadd dL_law_1104 ?_
                                                    obtain ⟨g219, hf⟩ := nv_gd hf
                                                    refine nv_scrL dL_law_1105 g219 ?_
                                                    obtain ⟨q220, hq220, hf⟩ := nv_bd hf
                                                    refine nv_cVi (tc_turned G h (G.2.2.2.2.2 (x3 + 1).toNatClampNeg) hq220) dL_law_1106 lm_L_108 y_qX6_turned ko_0 rfl rfl (by decide) rfl (Nat.le_of_ble_eq_true rfl) ?_
                                                    refine nv_aL dL_law_1109 rfl ?_
                                                    refine nv_aL dL_law_1110 rfl ?_
                                                    refine nv_iL dL_law_1111 rfl ?_
                                                    refine nv_k dL_law_1112 ?_
                                                    refine nv_iadd dL_law_1113 ?_
                                                    refine nv_scrL dL_law_1114 g219 ?_
                                                    obtain ⟨q222, hq222, hf⟩ := nv_bd hf
                                                    refine nv_cVi (tm_turned G q220.2 (G.2.2.2.2.2 (x3 + 1).toNatClampNeg) hq222) dL_law_1115 lm_L_111 y_qX7_turned ko_73 rfl rfl (by decide) rfl (Nat.le_of_ble_eq_true rfl) ?_
                                                    refine nv_iceq dL_law_1118 (fun c223 => ?_) (fun c223 => ?_)
                                                    · replace hf := nv_ip c223 hf
                                                      refine nv_inc dL_law_1471 rfl (v := 9) (by decide) (by decide) rfl rfl ?_
                                                      refine nv_goto dL_law_1474 ?_
                                                      exact ih _ _ _ hf
                                                    · replace hf := nv_in c223 hf
                                                      refine nv_k dL_law_1121 ?_
                                                      obtain rfl := Option.some.inj hf
                                                      exact nv_ireturnB (b := false) dL_law_1122 rfl
                                                  · replace hf := nv_in c218 hf
                                                    by_cases c224 : v3 = 23
                                                    · replace hf := nv_ip c224 hf
                                                      refine nv_switch (tgt := 1123) (swL_law_33_23 _ c224) ?_
                                                      refine nv_aL dL_law_1123 rfl ?_
                                                      refine nv_aL dL_law_1124 rfl ?_
                                                      refine nv_iL dL_law_1125 rfl ?_
                                                      refine nv_k dL_law_1126 ?_
                                                      refine nv_iadd dL_law_1127 ?_
                                                      obtain ⟨g225, hf⟩ := nv_gd hf
                                                      refine nv_scrL dL_law_1128 g225 ?_
                                                      refine nv_aL dL_law_1129 rfl ?_
                                                      refine nv_iL dL_law_1130 rfl ?_
                                                      refine nv_k dL_law_1131 ?_
                                                      refine nv_iadd dL_law_1132 ?_
                                                      obtain ⟨g226, hf⟩ := nv_gd hf
                                                      refine nv_scrL dL_law_1133 g226 ?_
                                                      refine nv_aL dL_law_1134 rfl ?_
                                                      refine nv_iL dL_law_1135 rfl ?_
                                                      refine nv_k dL_law_1136 ?_
                                                      refine nv_iadd dL_law_1137 ?_
                                                      obtain ⟨g227, hf⟩ := nv_gd hf
                                                      refine nv_scrL dL_law_1138 g227 ?_
                                                      refine nv_aL dL_law_1139 rfl ?_
                                                      refine nv_iL dL_law_1140 rfl ?_
                                                      refine nv_k dL_law_1141 ?_
                                                      refine nv_iadd dL_law_1142 ?_
                                                      obtain ⟨g228, hf⟩ := nv_gd hf
                                                      refine nv_scrL dL_law_1143 g228 ?_
                                                      obtain ⟨q229, hq229, hf⟩ := nv_bd hf
                                                      refine nv_cVi (tc_letter G h (G.2.2.2.2.2 (x3 + 1).toNatClampNeg) (G.2.2.2.2.2 (x3 + 2).toNatClampNeg) (G.2.2.2.2.2 (x3 + 3).toNatClampNeg) (G.2.2.2.2.2 (x3 + 4).toNatClampNeg) hq229) dL_law_1144 lm_L_112 y_qX6_letter ko_0 rfl rfl (by decide) rfl (Nat.le_of_ble_eq_true rfl) ?_
                                                      refine nv_aL dL_law_1147 rfl ?_
                                                      refine nv_aL dL_law_1148 rfl ?_
                                                      refine nv_iL dL_law_1149 rfl ?_
                                                      refine nv_k dL_law_1150 ?_
                                                      refine nv_iadd dL_law_1151 ?_
                                                      refine nv_scrL dL_law_1152 g225 ?_
                                                      refine nv_aL dL_law_1153 rfl ?_
                                                      refine nv_iL dL_law_1154 rfl ?_
                                                      refine nv_k dL_law_1155 ?_
                                                      refine nv_iadd dL_law_1156 ?_
                                                      refine nv_scrL dL_law_1157 g226 ?_
                                                      refine nv_aL dL_law_1158 rfl ?_
                                                      refine nv_iL dL_law_1159 rfl ?_
                                                      refine nv_k dL_law_1160 ?_
                                                      refine nv_iadd dL_law_1161 ?_
                                                      refine nv_scrL dL_law_1162 g227 ?_
                                                      refine nv_aL dL_law_1163 rfl ?_
                                                      refine nv_iL dL_law_1164 rfl ?_
                                                      refine nv_k dL_law_1165 ?_
                                                      refine nv_iadd dL_law_1166 ?_
                                                      refine nv_scrL dL_law_1167 g228 ?_
                                                      obtain ⟨q234, hq234, hf⟩ := nv_bd hf
                                                      refine nv_cVi (tm_letter G h (G.2.2.2.2.2 (x3 + 1).toNatClampNeg) (G.2.2.2.2.2 (x3 + 2).toNatClampNeg) (G.2.2.2.2.2 (x3 + 3).toNatClampNeg) (G.2.2.2.2.2 (x3 + 4).toNatClampNeg) hq234) dL_law_1168 lm_L_115 y_qX7_letter ko_73 rfl rfl (by decide) rfl (Nat.le_of_ble_eq_true rfl) ?_
                                                      refine nv_iceq dL_law_1171 (fun c235 => ?_) (fun c235 => ?_)
                                                      · replace hf := nv_ip c235 hf
                                                        refine nv_inc dL_law_1471 rfl (v := 9) (by decide) (by decide) rfl rfl ?_
                                                        refine nv_goto dL_law_1474 ?_
                                                        exact ih _ _ _ hf
                                                      · replace hf := nv_in c235 hf
                                                        refine nv_k dL_law_1174 ?_
                                                        obtain rfl := Option.some.inj hf
                                                        exact nv_ireturnB (b := false) dL_law_1175 rfl
                                                    · replace hf := nv_in c224 hf
                                                      by_cases c236 : v3 = 24
                                                      · replace hf := nv_ip c236 hf
                                                        refine nv_switch (tgt := 1176) (swL_law_33_24 _ c236) ?_
                                                        refine nv_aL dL_law_1176 rfl ?_
                                                        refine nv_aL dL_law_1177 rfl ?_
                                                        refine nv_iL dL_law_1178 rfl ?_
                                                        refine nv_k dL_law_1179 ?_
                                                        refine nv_iadd dL_law_1180 ?_
                                                        obtain ⟨g237, hf⟩ := nv_gd hf
                                                        refine nv_scrL dL_law_1181 g237 ?_
                                                        refine nv_aL dL_law_1182 rfl ?_
                                                        refine nv_iL dL_law_1183 rfl ?_
                                                        refine nv_k dL_law_1184 ?_
                                                        refine nv_iadd dL_law_1185 ?_
                                                        obtain ⟨g238, hf⟩ := nv_gd hf
                                                        refine nv_scrL dL_law_1186 g238 ?_
                                                        refine nv_aL dL_law_1187 rfl ?_
                                                        refine nv_iL dL_law_1188 rfl ?_
                                                        refine nv_k dL_law_1189 ?_
                                                        refine nv_iadd dL_law_1190 ?_
                                                        obtain ⟨g239, hf⟩ := nv_gd hf
                                                        refine nv_scrL dL_law_1191 g239 ?_
                                                        obtain ⟨q240, hq240, hf⟩ := nv_bd hf
                                                        refine nv_cVi (tc_sheet G h (G.2.2.2.2.2 (x3 + 1).toNatClampNeg) (G.2.2.2.2.2 (x3 + 2).toNatClampNeg) (G.2.2.2.2.2 (x3 + 3).toNatClampNeg) hq240) dL_law_1192 lm_L_116 y_qX6_sheet ko_0 rfl rfl (by decide) rfl (Nat.le_of_ble_eq_true rfl) ?_
                                                        refine nv_aL dL_law_1195 rfl ?_
                                                        refine nv_aL dL_law_1196 rfl ?_
                                                        refine nv_iL dL_law_1197 rfl ?_
                                                        refine nv_k dL_law_1198 ?_
                                                        refine nv_iadd dL_law_1199 ?_
                                                        refine nv_scrL dL_law_1200 g237 ?_
                                                        refine nv_aL dL_law_1201 rfl ?_
                                                        refine nv_iL dL_law_1202 rfl ?_
                                                        refine nv_k dL_law_1203 ?_
                                                        refine nv_iadd dL_law_1204 ?_
                                                        refine nv_scrL dL_law_1205 g238 ?_
                                                        refine nv_aL dL_law_1206 rfl ?_
                                                        refine nv_iL dL_law_1207 rfl ?_
                                                        refine nv_k dL_law_1208 ?_
                                                        refine nv_iadd dL_law_1209 ?_
                                                        refine nv_scrL dL_law_1210 g239 ?_
                                                        obtain ⟨q244, hq244, hf⟩ := nv_bd hf
                                                        refine nv_cVi (tm_sheet G q240.2 (G.2.2.2.2.2 (x3 + 1).toNatClampNeg) (G.2.2.2.2.2 (x3 + 2).toNatClampNeg) (G.2.2.2.2.2 (x3 + 3).toNatClampNeg) hq244) dL_law_1211 lm_L_119 y_qX7_sheet ko_73 rfl rfl (by decide) rfl (Nat.le_of_ble_eq_true rfl) ?_
                                                        refine nv_iceq dL_law_1214 (fun c245 => ?_) (fun c245 => ?_)
                                                        · replace hf := nv_ip c245 hf
                                                          refine nv_inc dL_law_1471 rfl (v := 9) (by decide) (by decide) rfl rfl ?_
                                                          refine nv_goto dL_law_1474 ?_
                                                          exact ih _ _ _ hf
                                                        · replace hf := nv_in c245 hf
                                                          refine nv_k dL_law_1217 ?_
                                                          obtain rfl := Option.some.inj hf
                                                          exact nv_ireturnB (b := false) dL_law_1218 rfl
                                                      · replace hf := nv_in c236 hf
                                                        by_cases c246 : v3 = 25
                                                        · replace hf := nv_ip c246 hf
                                                          refine nv_switch (tgt := 1219) (swL_law_33_25 _ c246) ?_
                                                          refine nv_aL dL_law_1219 rfl ?_
                                                          refine nv_aL dL_law_1220 rfl ?_
                                                          refine nv_iL dL_law_1221 rfl ?_
                                                          refine nv_k dL_law_1222 ?_
                                                          refine nv_iadd dL_law_1223 ?_
                                                          obtain ⟨g247, hf⟩ := nv_gd hf
                                                          refine nv_scrL dL_law_1224 g247 ?_
                                                          obtain ⟨q248, hq248, hf⟩ := nv_bd hf
                                                          refine nv_cVi (tc_lose G h (G.2.2.2.2.2 (x3 + 1).toNatClampNeg) hq248) dL_law_1225 lm_L_120 y_qX6_lose ko_0 rfl rfl (by decide) rfl (Nat.le_of_ble_eq_true rfl) ?_
                                                          refine nv_aL dL_law_1228 rfl ?_
                                                          refine nv_aL dL_law_1229 rfl ?_
                                                          refine nv_iL dL_law_1230 rfl ?_
                                                          refine nv_k dL_law_1231 ?_
                                                          refine nv_iadd dL_law_1232 ?_
                                                          refine nv_scrL dL_law_1233 g247 ?_
                                                          obtain ⟨q250, hq250, hf⟩ := nv_bd hf
                                                          refine nv_cVi (tm_lose G q248.2 (G.2.2.2.2.2 (x3 + 1).toNatClampNeg) hq250) dL_law_1234 lm_L_123 y_qX7_lose ko_73 rfl rfl (by decide) rfl (Nat.le_of_ble_eq_true rfl) ?_
                                                          refine nv_iceq dL_law_1237 (fun c251 => ?_) (fun c251 => ?_)
                                                          · replace hf := nv_ip c251 hf
                                                            refine nv_inc dL_law_1471 rfl (v := 9) (by decide) (by decide) rfl rfl ?_
                                                            refine nv_goto dL_law_1474 ?_
                                                            exact ih _ _ _ hf
                                                          · replace hf := nv_in c251 hf
                                                            refine nv_k dL_law_1240 ?_
                                                            obtain rfl := Option.some.inj hf
                                                            exact nv_ireturnB (b := false) dL_law_1241 rfl
                                                        · replace hf := nv_in c246 hf
                                                          by_cases c252 : v3 = 26
                                                          · replace hf := nv_ip c252 hf
                                                            refine nv_switch (tgt := 1242) (swL_law_33_26 _ c252) ?_
                                                            refine nv_aL dL_law_1242 rfl ?_
                                                            refine nv_aL dL_law_1243 rfl ?_
                                                            refine nv_iL dL_law_1244 rfl ?_
                                                            refine nv_k dL_law_1245 ?_
                                                            refine nv_iadd dL_law_1246 ?_
                                                            obtain ⟨g253, hf⟩ := nv_gd hf
                                                            refine nv_scrL dL_law_1247 g253 ?_
                                                            refine nv_aL dL_law_1248 rfl ?_
                                                            refine nv_iL dL_law_1249 rfl ?_
                                                            refine nv_k dL_law_1250 ?_
                                                            refine nv_iadd dL_law_1251 ?_
                                                            obtain ⟨g254, hf⟩ := nv_gd hf
                                                            refine nv_scrL dL_law_1252 g254 ?_
                                                            refine nv_aL dL_law_1253 rfl ?_
                                                            refine nv_iL dL_law_1254 rfl ?_
                                                            refine nv_k dL_law_1255 ?_
                                                            refine nv_iadd dL_law_1256 ?_
                                                            obtain ⟨g255, hf⟩ := nv_gd hf
                                                            refine nv_scrL dL_law_1257 g255 ?_
                                                            refine nv_aL dL_law_1258 rfl ?_
                                                            refine nv_iL dL_law_1259 rfl ?_
                                                            refine nv_k dL_law_1260 ?_
                                                            refine nv_iadd dL_law_1261 ?_
                                                            obtain ⟨g256, hf⟩ := nv_gd hf
                                                            refine nv_scrL dL_law_1262 g256 ?_
                                                            obtain ⟨q257, hq257, hf⟩ := nv_bd hf
                                                            refine nv_cVi (tc_lay G h (G.2.2.2.2.2 (x3 + 1).toNatClampNeg) (G.2.2.2.2.2 (x3 + 2).toNatClampNeg) (G.2.2.2.2.2 (x3 + 3).toNatClampNeg) (G.2.2.2.2.2 (x3 + 4).toNatClampNeg) hq257) dL_law_1263 lm_L_124 y_qX6_lay ko_0 rfl rfl (by decide) rfl (Nat.le_of_ble_eq_true rfl) ?_
                                                            refine nv_aL dL_law_1266 rfl ?_
                                                            refine nv_aL dL_law_1267 rfl ?_
                                                            refine nv_iL dL_law_1268 rfl ?_
                                                            refine nv_k dL_law_1269 ?_
                                                            refine nv_iadd dL_law_1270 ?_
                                                            refine nv_scrL dL_law_1271 g253 ?_
                                                            refine nv_aL dL_law_1272 rfl ?_
                                                            refine nv_iL dL_law_1273 rfl ?_
                                                            refine nv_k dL_law_1274 ?_
                                                            refine nv_iadd dL_law_1275 ?_
                                                            refine nv_scrL dL_law_1276 g254 ?_
                                                            refine nv_aL dL_law_1277 rfl ?_
                                                            refine nv_iL dL_law_1278 rfl ?_
                                                            refine nv_k dL_law_1279 ?_
                                                            refine nv_iadd dL_law_1280 ?_
                                                            refine nv_scrL dL_law_1281 g255 ?_
                                                            refine nv_aL dL_law_1282 rfl ?_
                                                            refine nv_iL dL_law_1283 rfl ?_
                                                            refine nv_k dL_law_1284 ?_
                                                            refine nv_iadd dL_law_1285 ?_
                                                            refine nv_scrL dL_law_1286 g256 ?_
                                                            obtain ⟨q262, hq262, hf⟩ := nv_bd hf
                                                            refine nv_cVi (tm_lay G q257.2 (G.2.2.2.2.2 (x3 + 1).toNatClampNeg) (G.2.2.2.2.2 (x3 + 2).toNatClampNeg) (G.2.2.2.2.2 (x3 + 3).toNatClampNeg) (G.2.2.2.2.2 (x3 + 4).toNatClampNeg) hq262) dL_law_1287 lm_L_127 y_qX7_lay ko_73 rfl rfl (by decide) rfl (Nat.le_of_ble_eq_true rfl) ?_
                                                            refine nv_iceq dL_law_1290 (fun c263 => ?_) (fun c263 => ?_)
                                                            · replace hf := nv_ip c263 hf
                                                              refine nv_inc dL_law_1471 rfl (v := 9) (by decide) (by decide) rfl rfl ?_
                                                              refine nv_goto dL_law_1474 ?_
                                                              exact ih _ _ _ hf
                                                            · replace hf := nv_in c263 hf
                                                              refine nv_k dL_law_1293 ?_
                                                              obtain rfl := Option.some.inj hf
                                                              exact nv_ireturnB (b := false) dL_law_1294 rfl
                                                          · replace hf := nv_in c252 hf
                                                            by_cases c264 : v3 = 27
                                                            · replace hf := nv_ip c264 hf
                                                              refine nv_switch (tgt := 1295) (swL_law_33_27 _ c264) ?_
                                                              refine nv_aL dL_law_1295 rfl ?_
                                                              refine nv_aL dL_law_1296 rfl ?_
                                                              refine nv_iL dL_law_1297 rfl ?_
                                                              refine nv_k dL_law_1298 ?_
                                                              refine nv_iadd dL_law_1299 ?_
                                                              obtain ⟨g265, hf⟩ := nv_gd hf
                                                              refine nv_scrL dL_law_1300 g265 ?_
                                                              refine nv_aL dL_law_1301 rfl ?_
                                                              refine nv_iL dL_law_1302 rfl ?_
                                                              refine nv_k dL_law_1303 ?_
                                                              refine nv_iadd dL_law_1304 ?_
                                                              obtain ⟨g266, hf⟩ := nv_gd hf
                                                              refine nv_scrL dL_law_1305 g266 ?_
                                                              refine nv_aL dL_law_1306 rfl ?_
                                                              refine nv_iL dL_law_1307 rfl ?_
                                                              refine nv_k dL_law_1308 ?_
                                                              refine nv_iadd dL_law_1309 ?_
                                                              obtain ⟨g267, hf⟩ := nv_gd hf
                                                              refine nv_scrL dL_law_1310 g267 ?_
                                                              obtain ⟨q268, hq268, hf⟩ := nv_bd hf
                                                              refine nv_cVi (tc_get G h (G.2.2.2.2.2 (x3 + 1).toNatClampNeg) (G.2.2.2.2.2 (x3 + 2).toNatClampNeg) (G.2.2.2.2.2 (x3 + 3).toNatClampNeg) hq268) dL_law_1311 lm_L_128 y_qX6_get ko_0 rfl rfl (by decide) rfl (Nat.le_of_ble_eq_true rfl) ?_
                                                              refine nv_aL dL_law_1314 rfl ?_
                                                              refine nv_aL dL_law_1315 rfl ?_
                                                              refine nv_iL dL_law_1316 rfl ?_
                                                              refine nv_k dL_law_1317 ?_
                                                              refine nv_iadd dL_law_1318 ?_
                                                              refine nv_scrL dL_law_1319 g265 ?_
                                                              refine nv_aL dL_law_1320 rfl ?_
                                                              refine nv_iL dL_law_1321 rfl ?_
                                                              refine nv_k dL_law_1322 ?_
                                                              refine nv_iadd dL_law_1323 ?_
                                                              refine nv_scrL dL_law_1324 g266 ?_
                                                              refine nv_aL dL_law_1325 rfl ?_
                                                              refine nv_iL dL_law_1326 rfl ?_
                                                              refine nv_k dL_law_1327 ?_
                                                              refine nv_iadd dL_law_1328 ?_
                                                              refine nv_scrL dL_law_1329 g267 ?_
                                                              obtain ⟨q272, hq272, hf⟩ := nv_bd hf
                                                              refine nv_cVi (tm_get G q268.2 (G.2.2.2.2.2 (x3 + 1).toNatClampNeg) (G.2.2.2.2.2 (x3 + 2).toNatClampNeg) (G.2.2.2.2.2 (x3 + 3).toNatClampNeg) hq272) dL_law_1330 lm_L_131 y_qX7_get ko_73 rfl rfl (by decide) rfl (Nat.le_of_ble_eq_true rfl) ?_
                                                              refine nv_iceq dL_law_1333 (fun c273 => ?_) (fun c273 => ?_)
                                                              · replace hf := nv_ip c273 hf
                                                                refine nv_inc dL_law_1471 rfl (v := 9) (by decide) (by decide) rfl rfl ?_
                                                                refine nv_goto dL_law_1474 ?_
                                                                exact ih _ _ _ hf
                                                              · replace hf := nv_in c273 hf
                                                                refine nv_k dL_law_1336 ?_
                                                                obtain rfl := Option.some.inj hf
                                                                exact nv_ireturnB (b := false) dL_law_1337 rfl
                                                            · replace hf := nv_in c264 hf
                                                              by_cases c274 : v3 = 28
                                                              · replace hf := nv_ip c274 hf
                                                                refine nv_switch (tgt := 1338) (swL_law_33_28 _ c274) ?_
                                                                refine nv_aL dL_law_1338 rfl ?_
                                                                refine nv_aL dL_law_1339 rfl ?_
                                                                refine nv_iL dL_law_1340 rfl ?_
                                                                refine nv_k dL_law_1341 ?_
                                                                refine nv_iadd dL_law_1342 ?_
                                                                obtain ⟨g275, hf⟩ := nv_gd hf
                                                                refine nv_scrL dL_law_1343 g275 ?_
                                                                refine nv_aL dL_law_1344 rfl ?_
                                                                refine nv_iL dL_law_1345 rfl ?_
                                                                refine nv_k dL_law_1346 ?_
                                                                refine nv_iadd dL_law_1347 ?_
                                                                obtain ⟨g276, hf⟩ := nv_gd hf
                                                                refine nv_scrL dL_law_1348 g276 ?_
                                                                refine nv_aL dL_law_1349 rfl ?_
                                                                refine nv_iL dL_law_1350 rfl ?_
                                                                refine nv_k dL_law_1351 ?_
                                                                refine nv_iadd dL_law_1352 ?_
                                                                obtain ⟨g277, hf⟩ := nv_gd hf
                                                                refine nv_scrL dL_law_1353 g277 ?_
                                                                refine nv_aL dL_law_1354 rfl ?_
                                                                refine nv_iL dL_law_1355 rfl ?_
                                                                refine nv_k dL_law_1356 ?_
                                                                refine nv_iadd dL_law_1357 ?_
                                                                obtain ⟨g278, hf⟩ := nv_gd hf
                                                                refine nv_scrL dL_law_1358 g278 ?_
                                                                refine nv_aL dL_law_1359 rfl ?_
                                                                refine nv_iL dL_law_1360 rfl ?_
                                                                refine nv_k dL_law_1361 ?_
                                                                refine nv_iadd dL_law_1362 ?_
                                                                obtain ⟨g279, hf⟩ := nv_gd hf
                                                                refine nv_scrL dL_law_1363 g279 ?_
                                                                obtain ⟨q280, hq280, hf⟩ := nv_bd hf
                                                                refine nv_cVi (tc_copy G h (G.2.2.2.2.2 (x3 + 1).toNatClampNeg) (G.2.2.2.2.2 (x3 + 2).toNatClampNeg) (G.2.2.2.2.2 (x3 + 3).toNatClampNeg) (G.2.2.2.2.2 (x3 + 4).toNatClampNeg) (G.2.2.2.2.2 (x3 + 5).toNatClampNeg) hq280) dL_law_1364 lm_L_132 y_qX6_copy ko_0 rfl rfl (by decide) rfl (Nat.le_of_ble_eq_true rfl) ?_
                                                                refine nv_aL dL_law_1367 rfl ?_
                                                                refine nv_aL dL_law_1368 rfl ?_
                                                                refine nv_iL dL_law_1369 rfl ?_
                                                                refine nv_k dL_law_1370 ?_
                                                                refine nv_iadd dL_law_1371 ?_
                                                                refine nv_scrL dL_law_1372 g275 ?_
                                                                refine nv_aL dL_law_1373 rfl ?_
                                                                refine nv_iL dL_law_1374 rfl ?_
                                                                refine nv_k dL_law_1375 ?_
                                                                refine nv_iadd dL_law_1376 ?_
                                                                refine nv_scrL dL_law_1377 g276 ?_
                                                                refine nv_aL dL_law_1378 rfl ?_
                                                                refine nv_iL dL_law_1379 rfl ?_
                                                                refine nv_k dL_law_1380 ?_
                                                                refine nv_iadd dL_law_1381 ?_
                                                                refine nv_scrL dL_law_1382 g277 ?_
                                                                refine nv_aL dL_law_1383 rfl ?_
                                                                refine nv_iL dL_law_1384 rfl ?_
                                                                refine nv_k dL_law_1385 ?_
                                                                refine nv_iadd dL_law_1386 ?_
                                                                refine nv_scrL dL_law_1387 g278 ?_
                                                                refine nv_aL dL_law_1388 rfl ?_
                                                                refine nv_iL dL_law_1389 rfl ?_
                                                                refine nv_k dL_law_1390 ?_
                                                                refine nv_iadd dL_law_1391 ?_
                                                                refine nv_scrL dL_law_1392 g279 ?_
                                                                obtain ⟨q286, hq286, hf⟩ := nv_bd hf
                                                                refine nv_cVi (tm_copy G q280.2 (G.2.2.2.2.2 (x3 + 1).toNatClampNeg) (G.2.2.2.2.2 (x3 + 2).toNatClampNeg) (G.2.2.2.2.2 (x3 + 3).toNatClampNeg) (G.2.2.2.2.2 (x3 + 4).toNatClampNeg) (G.2.2.2.2.2 (x3 + 5).toNatClampNeg) hq286) dL_law_1393 lm_L_135 y_qX7_copy ko_73 rfl rfl (by decide) rfl (Nat.le_of_ble_eq_true rfl) ?_
                                                                refine nv_iceq dL_law_1396 (fun c287 => ?_) (fun c287 => ?_)
                                                                · replace hf := nv_ip c287 hf
                                                                  refine nv_inc dL_law_1471 rfl (v := 9) (by decide) (by decide) rfl rfl ?_
                                                                  refine nv_goto dL_law_1474 ?_
                                                                  exact ih _ _ _ hf
                                                                · replace hf := nv_in c287 hf
                                                                  refine nv_k dL_law_1399 ?_
                                                                  obtain rfl := Option.some.inj hf
                                                                  exact nv_ireturnB (b := false) dL_law_1400 rfl
                                                              · replace hf := nv_in c274 hf
                                                                by_cases c288 : v3 = 29
                                                                · replace hf := nv_ip c288 hf
                                                                  refine nv_switch (tgt := 1401) (swL_law_33_29 _ c288) ?_
                                                                  refine nv_aL dL_law_1401 rfl ?_
                                                                  refine nv_aL dL_law_1402 rfl ?_
                                                                  refine nv_iL dL_law_1403 rfl ?_
                                                                  refine nv_k dL_law_1404 ?_
                                                                  refine nv_iadd dL_law_1405 ?_
                                                                  obtain ⟨g289, hf⟩ := nv_gd hf
                                                                  refine nv_scrL dL_law_1406 g289 ?_
                                                                  refine nv_aL dL_law_1407 rfl ?_
                                                                  refine nv_iL dL_law_1408 rfl ?_
                                                                  refine nv_k dL_law_1409 ?_
                                                                  refine nv_iadd dL_law_1410 ?_
                                                                  obtain ⟨g290, hf⟩ := nv_gd hf
                                                                  refine nv_scrL dL_law_1411 g290 ?_
                                                                  obtain ⟨q291, hq291, hf⟩ := nv_bd hf
                                                                  refine nv_cVi (tc_write G h (G.2.2.2.2.2 (x3 + 1).toNatClampNeg) (G.2.2.2.2.2 (x3 + 2).toNatClampNeg) hq291) dL_law_1412 lm_L_136 y_qX6_write ko_0 rfl rfl (by decide) rfl (Nat.le_of_ble_eq_true rfl) ?_
                                                                  refine nv_aL dL_law_1415 rfl ?_
                                                                  refine nv_aL dL_law_1416 rfl ?_
                                                                  refine nv_iL dL_law_1417 rfl ?_
                                                                  refine nv_k dL_law_1418 ?_
                                                                  refine nv_iadd dL_law_1419 ?_
                                                                  refine nv_scrL dL_law_1420 g289 ?_
                                                                  refine nv_aL dL_law_1421 rfl ?_
                                                                  refine nv_iL dL_law_1422 rfl ?_
                                                                  refine nv_k dL_law_1423 ?_
                                                                  refine nv_iadd dL_law_1424 ?_
                                                                  refine nv_scrL dL_law_1425 g290 ?_
                                                                  obtain ⟨q294, hq294, hf⟩ := nv_bd hf
                                                                  refine nv_cVi (tm_write G q291.2 (G.2.2.2.2.2 (x3 + 1).toNatClampNeg) (G.2.2.2.2.2 (x3 + 2).toNatClampNeg) hq294) dL_law_1426 lm_L_139 y_qX7_write ko_73 rfl rfl (by decide) rfl (Nat.le_of_ble_eq_true rfl) ?_
                                                                  refine nv_iceq dL_law_1429 (fun c295 => ?_) (fun c295 => ?_)
                                                                  · replace hf := nv_ip c295 hf
                                                                    refine nv_inc dL_law_1471 rfl (v := 9) (by decide) (by decide) rfl rfl ?_
                                                                    refine nv_goto dL_law_1474 ?_
                                                                    exact ih _ _ _ hf
                                                                  · replace hf := nv_in c295 hf
                                                                    refine nv_k dL_law_1432 ?_
                                                                    obtain rfl := Option.some.inj hf
                                                                    exact nv_ireturnB (b := false) dL_law_1433 rfl
                                                                · replace hf := nv_in c288 hf
                                                                  by_cases c296 : v3 = 30
                                                                  · replace hf := nv_ip c296 hf
                                                                    refine nv_switch (tgt := 1434) (swL_law_33_30 _ c296) ?_
                                                                    refine nv_aL dL_law_1434 rfl ?_
                                                                    refine nv_aL dL_law_1435 rfl ?_
                                                                    refine nv_iL dL_law_1436 rfl ?_
                                                                    refine nv_k dL_law_1437 ?_
                                                                    refine nv_iadd dL_law_1438 ?_
                                                                    obtain ⟨g297, hf⟩ := nv_gd hf
                                                                    refine nv_scrL dL_law_1439 g297 ?_
                                                                    obtain ⟨q298, hq298, hf⟩ := nv_bd hf
                                                                    refine nv_cVi (tc_count G h (G.2.2.2.2.2 (x3 + 1).toNatClampNeg) hq298) dL_law_1440 lm_L_140 y_qX6_count ko_0 rfl rfl (by decide) rfl (Nat.le_of_ble_eq_true rfl) ?_
                                                                    refine nv_aL dL_law_1443 rfl ?_
                                                                    refine nv_aL dL_law_1444 rfl ?_
                                                                    refine nv_iL dL_law_1445 rfl ?_
                                                                    refine nv_k dL_law_1446 ?_
                                                                    refine nv_iadd dL_law_1447 ?_
                                                                    refine nv_scrL dL_law_1448 g297 ?_
                                                                    obtain ⟨q300, hq300, hf⟩ := nv_bd hf
                                                                    refine nv_cVi (tm_count G h (G.2.2.2.2.2 (x3 + 1).toNatClampNeg) hq300) dL_law_1449 lm_L_143 y_qX7_count ko_73 rfl rfl (by decide) rfl (Nat.le_of_ble_eq_true rfl) ?_
                                                                    refine nv_iceq dL_law_1452 (fun c301 => ?_) (fun c301 => ?_)
                                                                    · replace hf := nv_ip c301 hf
                                                                      refine nv_inc dL_law_1471 rfl (v := 9) (by decide) (by decide) rfl rfl ?_
                                                                      refine nv_goto dL_law_1474 ?_
                                                                      exact ih _ _ _ hf
                                                                    · replace hf := nv_in c301 hf
                                                                      refine nv_k dL_law_1455 ?_
                                                                      obtain rfl := Option.some.inj hf
                                                                      exact nv_ireturnB (b := false) dL_law_1456 rfl
                                                                  · replace hf := nv_in c296 hf
                                                                    by_cases c302 : v3 = 31
                                                                    · replace hf := nv_ip c302 hf
                                                                      refine nv_switch (tgt := 1457) (swL_law_33_31 _ c302) ?_
                                                                      refine nv_aL dL_law_1457 rfl ?_
                                                                      obtain ⟨q303, hq303, hf⟩ := nv_bd hf
                                                                      refine nv_cVl (tc_digest G h hq303) dL_law_1458 lm_L_144 y_qX6_digest ko_0 rfl rfl (by decide) rfl (Nat.le_of_ble_eq_true rfl) ?_
                                                                      refine nv_aL dL_law_1461 rfl ?_
                                                                      obtain ⟨q304, hq304, hf⟩ := nv_bd hf
                                                                      refine nv_cVl (tm_digest G q303.2 hq304) dL_law_1462 lm_L_148 y_qX7_digest ko_73 rfl rfl (by decide) rfl (Nat.le_of_ble_eq_true rfl) ?_
                                                                      refine nv_lcmp dL_law_1465 ?_
                                                                      refine nv_ifeq dL_law_1466 (fun c305 => ?_) (fun c305 => ?_)
                                                                      · replace hf := nv_ip c305 hf
                                                                        refine nv_inc dL_law_1471 rfl (v := 9) (by decide) (by decide) rfl rfl ?_
                                                                        refine nv_goto dL_law_1474 ?_
                                                                        exact ih _ _ _ hf
                                                                      · replace hf := nv_in c305 hf
                                                                        refine nv_k dL_law_1469 ?_
                                                                        obtain rfl := Option.some.inj hf
                                                                        exact nv_ireturnB (b := false) dL_law_1470 rfl
                                                                    · replace hf := nv_in c302 hf
                                                                      refine nv_switch (tgt := 1471) (swL_law_33_d _ c4 c12 c32 c44 c52 c68 c74 c88 c96 c104 c112 c118 c124 c132 c144 c154 c162 c172 c180 c190 c200 c210 c218 c224 c236 c246 c252 c264 c274 c288 c296 c302) ?_
                                                                      refine nv_inc dL_law_1471 rfl (v := 9) (by decide) (by decide) rfl rfl ?_
                                                                      refine nv_goto dL_law_1474 ?_
                                                                      exact ih _ _ _ hf
