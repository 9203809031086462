noncomputable def gL_law_1315 (xs : Nat → Int32) (L : Nat) (K18 : Mem → Nat → Nat → Int32 → Option (Unit × Mem)) (M : Mem) (l1 : Nat) (l2 : Nat) (l3 : Int32) : Option (Unit × Mem) :=
  K18 M l1 l2 (l3 + (6 : Int32))
noncomputable def gL_law_400 (xs : Nat → Int32) (L : Nat) (K18 : Mem → Nat → Nat → Int32 → Option (Unit × Mem)) (M : Mem) (l1 : Nat) (l2 : Nat) (l3 : Int32) (s0 : Int32) (s1 : Int32) (s2 : Nat) (s3 : Int32) : Option (Unit × Mem) :=
  ck (isK M s2 12) <| bd (fX12_away M s2 s1 s0) fun x52 M52 => if s3 = x52 then (gL_law_1315 xs L K18 M52 l1 l2 l3) else none
noncomputable def gL_law_378 (xs : Nat → Int32) (L : Nat) (K18 : Mem → Nat → Nat → Int32 → Option (Unit × Mem)) (M : Mem) (l1 : Nat) (l2 : Nat) (l3 : Int32) (s0 : Int32) (s1 : Int32) (s2 : Nat) : Option (Unit × Mem) :=
  ck (isK M s2 11) <| bd (fX11_away M s2 s1 s0) fun x48 M48 => ck (inb (l3 + (1 : Int32)) L) <| ck (inb (l3 + (2 : Int32)) L) <| if (xs (l3 + (2 : Int32)).toNatClampNeg) = 0 then (gL_law_400 xs L K18 M48 l1 l2 l3 (0 : Int32) (xs (l3 + (1 : Int32)).toNatClampNeg) l2 x48) else (gL_law_400 xs L K18 M48 l1 l2 l3 (1 : Int32) (xs (l3 + (1 : Int32)).toNatClampNeg) l2 x48)
noncomputable def bL_law (xs : Nat → Int32) (L : Nat) (K18 : Mem → Nat → Nat → Int32 → Option (Unit × Mem)) (M : Mem) (l1 l2 : Nat) (l3 : Int32) : Option (Unit × Mem) :=
  if ((Int32.ofNat L) - (6 : Int32)) < l3 then (some ((), M)) else (ck (inb l3 L) <| if ((xs l3.toNatClampNeg) &&& (63 : Int32)) = (0 : Int32) then (ck (inb (l3 + (1 : Int32)) L) <| ck (inb (l3 + (2 : Int32)) L) <| ck (inb (l3 + (3 : Int32)) L) <| ck (isK M l1 11) <| bd (fX11_one M l1 (xs (l3 + (1 : Int32)).toNatClampNeg) (xs (l3 + (2 : Int32)).toNatClampNeg) (xs (l3 + (3 : Int32)).toNatClampNeg)) fun x7 M7 => ck (inb (l3 + (1 : Int32)) L) <| ck (inb (l3 + (2 : Int32)) L) <| ck (inb (l3 + (3 : Int32)) L) <| ck (isK M7 l2 12) <| bd (fX12_one M7 l2 (xs (l3 + (1 : Int32)).toNatClampNeg) (xs (l3 + (2 : Int32)).toNatClampNeg) (xs (l3 + (3 : Int32)).toNatClampNeg)) fun x12 M12 => if x7 = x12 then (gL_law_1315 xs L K18 M12 l1 l2 l3) else none) else if ((xs l3.toNatClampNeg) &&& (63 : Int32)) = (1 : Int32) then (ck (inb (l3 + (1 : Int32)) L) <| ck (inb (l3 + (2 : Int32)) L) <| ck (isK M l1 11) <| bd (fX11_of M l1 (xs (l3 + (1 : Int32)).toNatClampNeg) (xs (l3 + (2 : Int32)).toNatClampNeg)) fun x16 M16 => ck (inb (l3 + (1 : Int32)) L) <| ck (inb (l3 + (2 : Int32)) L) <| ck (isK M16 l2 12) <| bd (fX12_of M16 l2 (xs (l3 + (1 : Int32)).toNatClampNeg) (xs (l3 + (2 : Int32)).toNatClampNeg)) fun x20 M20 => if x16 = x20 then (gL_law_1315 xs L K18 M20 l1 l2 l3) else none) else if ((xs l3.toNatClampNeg) &&& (63 : Int32)) = (2 : Int32) then (ck (inb (l3 + (1 : Int32)) L) <| ck (inb (l3 + (2 : Int32)) L) <| ck (isK M l1 11) <| bd (fX11_pull M l1 (xs (l3 + (1 : Int32)).toNatClampNeg) (xs (l3 + (2 : Int32)).toNatClampNeg)) fun x24 M24 => ck (inb (l3 + (1 : Int32)) L) <| ck (inb (l3 + (2 : Int32)) L) <| ck (isK M24 l2 12) <| bd (fX12_pull M24 l2 (xs (l3 + (1 : Int32)).toNatClampNeg) (xs (l3 + (2 : Int32)).toNatClampNeg)) fun x28 M28 => if x24 = x28 then (gL_law_1315 xs L K18 M28 l1 l2 l3) else none) else if ((xs l3.toNatClampNeg) &&& (63 : Int32)) = (3 : Int32) then (ck (inb (l3 + (1 : Int32)) L) <| ck (inb (l3 + (2 : Int32)) L) <| ck (isK M l1 11) <| bd (fX11_put M l1 (xs (l3 + (1 : Int32)).toNatClampNeg) (xs (l3 + (2 : Int32)).toNatClampNeg)) fun x32 M32 => ck (inb (l3 + (1 : Int32)) L) <| ck (inb (l3 + (2 : Int32)) L) <| ck (isK M32 l2 12) <| bd (fX12_put M32 l2 (xs (l3 + (1 : Int32)).toNatClampNeg) (xs (l3 + (2 : Int32)).toNatClampNeg)) fun x36 M36 => if x32 = x36 then (gL_law_1315 xs L K18 M36 l1 l2 l3) else none) else if ((xs l3.toNatClampNeg) &&& (63 : Int32)) = (4 : Int32) then (ck (inb (l3 + (1 : Int32)) L) <| ck (inb (l3 + (2 : Int32)) L) <| ck (isK M l1 11) <| bd (fX11_wear M l1 (xs (l3 + (1 : Int32)).toNatClampNeg) (xs (l3 + (2 : Int32)).toNatClampNeg)) fun x40 M40 => ck (inb (l3 + (1 : Int32)) L) <| ck (inb (l3 + (2 : Int32)) L) <| ck (isK M40 l2 12) <| bd (fX12_wear M40 l2 (xs (l3 + (1 : Int32)).toNatClampNeg) (xs (l3 + (2 : Int32)).toNatClampNeg)) fun x44 M44 => if x40 = x44 then (gL_law_1315 xs L K18 M44 l1 l2 l3) else none) else if ((xs l3.toNatClampNeg) &&& (63 : Int32)) = (5 : Int32) then (ck (inb (l3 + (1 : Int32)) L) <| ck (inb (l3 + (2 : Int32)) L) <| if (xs (l3 + (2 : Int32)).toNatClampNeg) = 0 then (gL_law_378 xs L K18 M l1 l2 l3 (0 : Int32) (xs (l3 + (1 : Int32)).toNatClampNeg) l1) else (gL_law_378 xs L K18 M l1 l2 l3 (1 : Int32) (xs (l3 + (1 : Int32)).toNatClampNeg) l1)) else if ((xs l3.toNatClampNeg) &&& (63 : Int32)) = (6 : Int32) then (ck (inb (l3 + (1 : Int32)) L) <| ck (inb (l3 + (2 : Int32)) L) <| ck (inb (l3 + (3 : Int32)) L) <| ck (isK M l1 11) <| bd (fX11_row M l1 (xs (l3 + (1 : Int32)).toNatClampNeg) (xs (l3 + (2 : Int32)).toNatClampNeg) (xs (l3 + (3 : Int32)).toNatClampNeg)) fun x57 M57 => ck (inb (l3 + (1 : Int32)) L) <| ck (inb (l3 + (2 : Int32)) L) <| ck (inb (l3 + (3 : Int32)) L) <| ck (isK M57 l2 12) <| bd (fX12_row M57 l2 (xs (l3 + (1 : Int32)).toNatClampNeg) (xs (l3 + (2 : Int32)).toNatClampNeg) (xs (l3 + (3 : Int32)).toNatClampNeg)) fun x62 M62 => if x57 = x62 then (gL_law_1315 xs L K18 M62 l1 l2 l3) else none) else if ((xs l3.toNatClampNeg) &&& (63 : Int32)) = (7 : Int32) then (ck (inb (l3 + (1 : Int32)) L) <| ck (isK M l1 11) <| bd (fX11_feed M l1 (xs (l3 + (1 : Int32)).toNatClampNeg)) fun x65 M65 => ck (inb (l3 + (1 : Int32)) L) <| ck (isK M65 l2 12) <| bd (fX12_feed M65 l2 (xs (l3 + (1 : Int32)).toNatClampNeg)) fun x68 M68 => if x65 = x68 then (gL_law_1315 xs L K18 M68 l1 l2 l3) else none) else if ((xs l3.toNatClampNeg) &&& (63 : Int32)) = (8 : Int32) then (ck (isK M l1 11) <| bd (fX11_statute M l1) fun x70 M70 => ck (isK M70 l2 12) <| bd (fX12_statute M70 l2) fun x72 M72 => if x70 = x72 then (gL_law_1315 xs L K18 M72 l1 l2 l3) else none) else if ((xs l3.toNatClampNeg) &&& (63 : Int32)) = (9 : Int32) then (ck (inb (l3 + (1 : Int32)) L) <| ck (isK M l1 11) <| bd (fX11_told M l1 (xs (l3 + (1 : Int32)).toNatClampNeg)) fun x75 M75 => ck (inb (l3 + (1 : Int32)) L) <| ck (isK M75 l2 12) <| bd (fX12_told M75 l2 (xs (l3 + (1 : Int32)).toNatClampNeg)) fun x78 M78 => if x75 = x78 then (gL_law_1315 xs L K18 M78 l1 l2 l3) else none) else if ((xs l3.toNatClampNeg) &&& (63 : Int32)) = (10 : Int32) then (ck (inb (l3 + (1 : Int32)) L) <| ck (isK M l1 11) <| bd (fX11_pass M l1 (xs (l3 + (1 : Int32)).toNatClampNeg)) fun x81 M81 => ck (inb (l3 + (1 : Int32)) L) <| ck (isK M81 l2 12) <| bd (fX12_pass M81 l2 (xs (l3 + (1 : Int32)).toNatClampNeg)) fun x84 M84 => if x81 = x84 then (gL_law_1315 xs L K18 M84 l1 l2 l3) else none) else if ((xs l3.toNatClampNeg) &&& (63 : Int32)) = (11 : Int32) then (ck (inb (l3 + (1 : Int32)) L) <| ck (inb (l3 + (2 : Int32)) L) <| ck (isK M l1 11) <| bd (fX11_on M l1 (xs (l3 + (1 : Int32)).toNatClampNeg) (xs (l3 + (2 : Int32)).toNatClampNeg)) fun x88 M88 => ck (inb (l3 + (1 : Int32)) L) <| ck (inb (l3 + (2 : Int32)) L) <| ck (isK M88 l2 12) <| bd (fX12_on M88 l2 (xs (l3 + (1 : Int32)).toNatClampNeg) (xs (l3 + (2 : Int32)).toNatClampNeg)) fun x92 M92 => if x88 = x92 then (gL_law_1315 xs L K18 M92 l1 l2 l3) else none) else if ((xs l3.toNatClampNeg) &&& (63 : Int32)) = (12 : Int32) then (ck (inb (l3 + (1 : Int32)) L) <| ck (inb (l3 + (2 : Int32)) L) <| ck (inb (l3 + (3 : Int32)) L) <| ck (isK M l1 11) <| bd (fX11_way M l1 (xs (l3 + (1 : Int32)).toNatClampNeg) (xs (l3 + (2 : Int32)).toNatClampNeg) (xs (l3 + (3 : Int32)).toNatClampNeg)) fun x97 M97 => ck (inb (l3 + (1 : Int32)) L) <| ck (inb (l3 + (2 : Int32)) L) <| ck (inb (l3 + (3 : Int32)) L) <| ck (isK M97 l2 12) <| bd (fX12_way M97 l2 (xs (l3 + (1 : Int32)).toNatClampNeg) (xs (l3 + (2 : Int32)).toNatClampNeg) (xs (l3 + (3 : Int32)).toNatClampNeg)) fun x102 M102 => if x97 = x102 then (gL_law_1315 xs L K18 M102 l1 l2 l3) else none) else if ((xs l3.toNatClampNeg) &&& (63 : Int32)) = (13 : Int32) then (ck (inb (l3 + (1 : Int32)) L) <| ck (inb (l3 + (2 : Int32)) L) <| ck (isK M l1 11) <| bd (fX11_night M l1 (xs (l3 + (1 : Int32)).toNatClampNeg) (xs (l3 + (2 : Int32)).toNatClampNeg)) fun x106 M106 => ck (inb (l3 + (1 : Int32)) L) <| ck (inb (l3 + (2 : Int32)) L) <| ck (isK M106 l2 12) <| bd (fX12_night M106 l2 (xs (l3 + (1 : Int32)).toNatClampNeg) (xs (l3 + (2 : Int32)).toNatClampNeg)) fun x110 M110 => if x106 = x110 then (gL_law_1315 xs L K18 M110 l1 l2 l3) else none) else if ((xs l3.toNatClampNeg) &&& (63 : Int32)) = (14 : Int32) then (ck (inb (l3 + (1 : Int32)) L) <| ck (inb (l3 + (2 : Int32)) L) <| ck (inb (l3 + (3 : Int32)) L) <| ck (isK M l1 11) <| bd (fX11_see M l1 (xs (l3 + (1 : Int32)).toNatClampNeg) (xs (l3 + (2 : Int32)).toNatClampNeg) (xs (l3 + (3 : Int32)).toNatClampNeg)) fun x115 M115 => ck (inb (l3 + (1 : Int32)) L) <| ck (inb (l3 + (2 : Int32)) L) <| ck (inb (l3 + (3 : Int32)) L) <| ck (isK M115 l2 12) <| bd (fX12_see M115 l2 (xs (l3 + (1 : Int32)).toNatClampNeg) (xs (l3 + (2 : Int32)).toNatClampNeg) (xs (l3 + (3 : Int32)).toNatClampNeg)) fun x120 M120 => if x115 = x120 then (gL_law_1315 xs L K18 M120 l1 l2 l3) else none) else if ((xs l3.toNatClampNeg) &&& (63 : Int32)) = (15 : Int32) then (ck (inb (l3 + (1 : Int32)) L) <| ck (isK M l1 11) <| bd (fX11_from M l1 (xs (l3 + (1 : Int32)).toNatClampNeg)) fun x123 M123 => ck (inb (l3 + (1 : Int32)) L) <| ck (isK M123 l2 12) <| bd (fX12_from M123 l2 (xs (l3 + (1 : Int32)).toNatClampNeg)) fun x126 M126 => if x123 = x126 then (gL_law_1315 xs L K18 M126 l1 l2 l3) else none) else if ((xs l3.toNatClampNeg) &&& (63 : Int32)) = (16 : Int32) then (ck (inb (l3 + (1 : Int32)) L) <| ck (inb (l3 + (2 : Int32)) L) <| ck (isK M l1 11) <| bd (fX11_can M l1 (xs (l3 + (1 : Int32)).toNatClampNeg) (xs (l3 + (2 : Int32)).toNatClampNeg)) fun x130 M130 => ck (inb (l3 + (1 : Int32)) L) <| ck (inb (l3 + (2 : Int32)) L) <| ck (isK M130 l2 12) <| bd (fX12_can M130 l2 (xs (l3 + (1 : Int32)).toNatClampNeg) (xs (l3 + (2 : Int32)).toNatClampNeg)) fun x134 M134 => if x130 = x134 then (gL_law_1315 xs L K18 M134 l1 l2 l3) else none) else if ((xs l3.toNatClampNeg) &&& (63 : Int32)) = (17 : Int32) then (ck (inb (l3 + (1 : Int32)) L) <| ck (inb (l3 + (2 : Int32)) L) <| ck (inb (l3 + (3 : Int32)) L) <| ck (isK M l1 11) <| bd (fX11_odds M l1 (xs (l3 + (1 : Int32)).toNatClampNeg) (xs (l3 + (2 : Int32)).toNatClampNeg) (xs (l3 + (3 : Int32)).toNatClampNeg)) fun x139 M139 => ck (inb (l3 + (1 : Int32)) L) <| ck (inb (l3 + (2 : Int32)) L) <| ck (inb (l3 + (3 : Int32)) L) <| ck (isK M139 l2 12) <| bd (fX12_odds M139 l2 (xs (l3 + (1 : Int32)).toNatClampNeg) (xs (l3 + (2 : Int32)).toNatClampNeg) (xs (l3 + (3 : Int32)).toNatClampNeg)) fun x144 M144 => if (lg_cmp x139 x144) = 0 then (gL_law_1315 xs L K18 M144 l1 l2 l3) else none) else if ((xs l3.toNatClampNeg) &&& (63 : Int32)) = (18 : Int32) then (ck (inb (l3 + (1 : Int32)) L) <| ck (inb (l3 + (2 : Int32)) L) <| ck (isK M l1 11) <| bd (fX11_mean M l1 (xs (l3 + (1 : Int32)).toNatClampNeg) (xs (l3 + (2 : Int32)).toNatClampNeg)) fun x148 M148 => ck (inb (l3 + (1 : Int32)) L) <| ck (inb (l3 + (2 : Int32)) L) <| ck (isK M148 l2 12) <| bd (fX12_mean M148 l2 (xs (l3 + (1 : Int32)).toNatClampNeg) (xs (l3 + (2 : Int32)).toNatClampNeg)) fun x152 M152 => if (lg_cmp x148 x152) = 0 then (gL_law_1315 xs L K18 M152 l1 l2 l3) else none) else if ((xs l3.toNatClampNeg) &&& (63 : Int32)) = (19 : Int32) then (ck (inb (l3 + (1 : Int32)) L) <| ck (inb (l3 + (2 : Int32)) L) <| ck (isK M l1 11) <| bd (fX11_plan M l1 (xs (l3 + (1 : Int32)).toNatClampNeg) (xs (l3 + (2 : Int32)).toNatClampNeg)) fun x156 M156 => ck (inb (l3 + (1 : Int32)) L) <| ck (inb (l3 + (2 : Int32)) L) <| ck (isK M156 l2 12) <| bd (fX12_plan M156 l2 (xs (l3 + (1 : Int32)).toNatClampNeg) (xs (l3 + (2 : Int32)).toNatClampNeg)) fun x160 M160 => if x156 = x160 then (gL_law_1315 xs L K18 M160 l1 l2 l3) else none) else if ((xs l3.toNatClampNeg) &&& (63 : Int32)) = (20 : Int32) then (ck (inb (l3 + (1 : Int32)) L) <| ck (isK M l1 11) <| bd (fX11_ends M l1 (xs (l3 + (1 : Int32)).toNatClampNeg)) fun x163 M163 => ck (inb (l3 + (1 : Int32)) L) <| ck (isK M163 l2 12) <| bd (fX12_ends M163 l2 (xs (l3 + (1 : Int32)).toNatClampNeg)) fun x166 M166 => if x163 = x166 then (gL_law_1315 xs L K18 M166 l1 l2 l3) else none) else if ((xs l3.toNatClampNeg) &&& (63 : Int32)) = (21 : Int32) then (ck (inb (l3 + (1 : Int32)) L) <| ck (inb (l3 + (2 : Int32)) L) <| ck (isK M l1 11) <| bd (fX11_book M l1 (xs (l3 + (1 : Int32)).toNatClampNeg) (xs (l3 + (2 : Int32)).toNatClampNeg)) fun x170 M170 => ck (inb (l3 + (1 : Int32)) L) <| ck (inb (l3 + (2 : Int32)) L) <| ck (isK M170 l2 12) <| bd (fX12_book M170 l2 (xs (l3 + (1 : Int32)).toNatClampNeg) (xs (l3 + (2 : Int32)).toNatClampNeg)) fun x174 M174 => if x170 = x174 then (gL_law_1315 xs L K18 M174 l1 l2 l3) else none) else if ((xs l3.toNatClampNeg) &&& (63 : Int32)) = (22 : Int32) then (ck (isK M l1 11) <| bd (fX11_looked M l1) fun x176 M176 => ck (isK M176 l2 12) <| bd (fX12_looked M176 l2) fun x178 M178 => if x176 = x178 then (gL_law_1315 xs L K18 M178 l1 l2 l3) else none) else if ((xs l3.toNatClampNeg) &&& (63 : Int32)) = (23 : Int32) then (ck (inb (l3 + (1 : Int32)) L) <| ck (inb (l3 + (2 : Int32)) L) <| ck (isK M l1 11) <| bd (fX11_judge M l1 (xs (l3 + (1 : Int32)).toNatClampNeg) (xs (l3 + (2 : Int32)).toNatClampNeg)) fun x182 M182 => ck (inb (l3 + (1 : Int32)) L) <| ck (inb (l3 + (2 : Int32)) L) <| ck (isK M182 l2 12) <| bd (fX12_judge M182 l2 (xs (l3 + (1 : Int32)).toNatClampNeg) (xs (l3 + (2 : Int32)).toNatClampNeg)) fun x186 M186 => if x182 = x186 then (gL_law_1315 xs L K18 M186 l1 l2 l3) else none) else if ((xs l3.toNatClampNeg) &&& (63 : Int32)) = (24 : Int32) then (ck (isK M l1 11) <| bd (fX11_image M l1) fun x188 M188 => ck (isK M188 l2 12) <| bd (fX12_image M188 l2) fun x190 M190 => if x188 = x190 then (gL_law_1315 xs L K18 M190 l1 l2 l3) else none) else if ((xs l3.toNatClampNeg) &&& (63 : Int32)) = (25 : Int32) then (ck (isK M l1 11) <| bd (fX11_undo M l1) fun x192 M192 => ck (isK M192 l2 12) <| bd (fX12_undo M192 l2) fun x194 M194 => if x192 = x194 then (gL_law_1315 xs L K18 M194 l1 l2 l3) else none) else if ((xs l3.toNatClampNeg) &&& (63 : Int32)) = (26 : Int32) then (ck (inb (l3 + (1 : Int32)) L) <| ck (inb (l3 + (2 : Int32)) L) <| ck (inb (l3 + (3 : Int32)) L) <| ck (isK M l1 11) <| bd (fX11_act M l1 (xs (l3 + (1 : Int32)).toNatClampNeg) (xs (l3 + (2 : Int32)).toNatClampNeg) (xs (l3 + (3 : Int32)).toNatClampNeg)) fun x199 M199 => ck (inb (l3 + (1 : Int32)) L) <| ck (inb (l3 + (2 : Int32)) L) <| ck (inb (l3 + (3 : Int32)) L) <| ck (isK M199 l2 12) <| bd (fX12_act M199 l2 (xs (l3 + (1 : Int32)).toNatClampNeg) (xs (l3 + (2 : Int32)).toNatClampNeg) (xs (l3 + (3 : Int32)).toNatClampNeg)) fun x204 M204 => if x199 = x204 then (gL_law_1315 xs L K18 M204 l1 l2 l3) else none) else if ((xs l3.toNatClampNeg) &&& (63 : Int32)) = (27 : Int32) then (ck (inb (l3 + (1 : Int32)) L) <| ck (isK M l1 11) <| bd (fX11_trace M l1 (xs (l3 + (1 : Int32)).toNatClampNeg)) fun x207 M207 => ck (inb (l3 + (1 : Int32)) L) <| ck (isK M207 l2 12) <| bd (fX12_trace M207 l2 (xs (l3 + (1 : Int32)).toNatClampNeg)) fun x210 M210 => if x207 = x210 then (gL_law_1315 xs L K18 M210 l1 l2 l3) else none) else if ((xs l3.toNatClampNeg) &&& (63 : Int32)) = (28 : Int32) then (ck (inb (l3 + (1 : Int32)) L) <| ck (inb (l3 + (2 : Int32)) L) <| ck (isK M l1 11) <| bd (fX11_taken M l1 (xs (l3 + (1 : Int32)).toNatClampNeg) (xs (l3 + (2 : Int32)).toNatClampNeg)) fun x214 M214 => ck (inb (l3 + (1 : Int32)) L) <| ck (inb (l3 + (2 : Int32)) L) <| ck (isK M214 l2 12) <| bd (fX12_taken M214 l2 (xs (l3 + (1 : Int32)).toNatClampNeg) (xs (l3 + (2 : Int32)).toNatClampNeg)) fun x218 M218 => if x214 = x218 then (gL_law_1315 xs L K18 M218 l1 l2 l3) else none) else if ((xs l3.toNatClampNeg) &&& (63 : Int32)) = (29 : Int32) then (ck (inb (l3 + (1 : Int32)) L) <| ck (isK M l1 11) <| bd (fX11_count M l1 (xs (l3 + (1 : Int32)).toNatClampNeg)) fun x221 M221 => ck (inb (l3 + (1 : Int32)) L) <| ck (isK M221 l2 12) <| bd (fX12_count M221 l2 (xs (l3 + (1 : Int32)).toNatClampNeg)) fun x224 M224 => if x221 = x224 then (gL_law_1315 xs L K18 M224 l1 l2 l3) else none) else if ((xs l3.toNatClampNeg) &&& (63 : Int32)) = (30 : Int32) then (ck (inb (l3 + (1 : Int32)) L) <| ck (inb (l3 + (2 : Int32)) L) <| ck (inb (l3 + (3 : Int32)) L) <| ck (isK M l1 11) <| bd (fX11_tape M l1 (xs (l3 + (1 : Int32)).toNatClampNeg) (xs (l3 + (2 : Int32)).toNatClampNeg) (xs (l3 + (3 : Int32)).toNatClampNeg)) fun x229 M229 => ck (inb (l3 + (1 : Int32)) L) <| ck (inb (l3 + (2 : Int32)) L) <| ck (inb (l3 + (3 : Int32)) L) <| ck (isK M229 l2 12) <| bd (fX12_tape M229 l2 (xs (l3 + (1 : Int32)).toNatClampNeg) (xs (l3 + (2 : Int32)).toNatClampNeg) (xs (l3 + (3 : Int32)).toNatClampNeg)) fun x234 M234 => if x229 = x234 then (gL_law_1315 xs L K18 M234 l1 l2 l3) else none) else if ((xs l3.toNatClampNeg) &&& (63 : Int32)) = (31 : Int32) then (ck (inb (l3 + (1 : Int32)) L) <| ck (inb (l3 + (2 : Int32)) L) <| ck (inb (l3 + (3 : Int32)) L) <| ck (inb (l3 + (4 : Int32)) L) <| ck (isK M l1 11) <| bd (fX11_item M l1 (xs (l3 + (1 : Int32)).toNatClampNeg) (xs (l3 + (2 : Int32)).toNatClampNeg) ((((xs (l3 + (3 : Int32)).toNatClampNeg).toInt64) <<< ((32 : Int32).toInt64 &&& 63)) ||| (((xs (l3 + (4 : Int32)).toNatClampNeg).toInt64) &&& (4294967295 : Int64)))) fun x240 M240 => ck (inb (l3 + (1 : Int32)) L) <| ck (inb (l3 + (2 : Int32)) L) <| ck (inb (l3 + (3 : Int32)) L) <| ck (inb (l3 + (4 : Int32)) L) <| ck (isK M240 l2 12) <| bd (fX12_item M240 l2 (xs (l3 + (1 : Int32)).toNatClampNeg) (xs (l3 + (2 : Int32)).toNatClampNeg) ((((xs (l3 + (3 : Int32)).toNatClampNeg).toInt64) <<< ((32 : Int32).toInt64 &&& 63)) ||| (((xs (l3 + (4 : Int32)).toNatClampNeg).toInt64) &&& (4294967295 : Int64)))) fun x246 M246 => if x240 = x246 then (gL_law_1315 xs L K18 M246 l1 l2 l3) else none) else if ((xs l3.toNatClampNeg) &&& (63 : Int32)) = (32 : Int32) then (ck (inb (l3 + (1 : Int32)) L) <| ck (inb (l3 + (2 : Int32)) L) <| ck (isK M l1 11) <| bd (fX11_read M l1 (xs (l3 + (1 : Int32)).toNatClampNeg) (xs (l3 + (2 : Int32)).toNatClampNeg)) fun x250 M250 => ck (inb (l3 + (1 : Int32)) L) <| ck (inb (l3 + (2 : Int32)) L) <| ck (isK M250 l2 12) <| bd (fX12_read M250 l2 (xs (l3 + (1 : Int32)).toNatClampNeg) (xs (l3 + (2 : Int32)).toNatClampNeg)) fun x254 M254 => if (lg_cmp x250 x254) = 0 then (gL_law_1315 xs L K18 M254 l1 l2 l3) else none) else if ((xs l3.toNatClampNeg) &&& (63 : Int32)) = (33 : Int32) then (ck (inb (l3 + (1 : Int32)) L) <| ck (inb (l3 + (2 : Int32)) L) <| ck (inb (l3 + (3 : Int32)) L) <| ck (inb (l3 + (4 : Int32)) L) <| ck (inb (l3 + (5 : Int32)) L) <| ck (isK M l1 11) <| bd (fX11_shift M l1 (xs (l3 + (1 : Int32)).toNatClampNeg) (xs (l3 + (2 : Int32)).toNatClampNeg) (xs (l3 + (3 : Int32)).toNatClampNeg) (xs (l3 + (4 : Int32)).toNatClampNeg) (xs (l3 + (5 : Int32)).toNatClampNeg)) fun x261 M261 => ck (inb (l3 + (1 : Int32)) L) <| ck (inb (l3 + (2 : Int32)) L) <| ck (inb (l3 + (3 : Int32)) L) <| ck (inb (l3 + (4 : Int32)) L) <| ck (inb (l3 + (5 : Int32)) L) <| ck (isK M261 l2 12) <| bd (fX12_shift M261 l2 (xs (l3 + (1 : Int32)).toNatClampNeg) (xs (l3 + (2 : Int32)).toNatClampNeg) (xs (l3 + (3 : Int32)).toNatClampNeg) (xs (l3 + (4 : Int32)).toNatClampNeg) (xs (l3 + (5 : Int32)).toNatClampNeg)) fun x268 M268 => if x261 = x268 then (gL_law_1315 xs L K18 M268 l1 l2 l3) else none) else (gL_law_1315 xs L K18 M l1 l2 l3))
set_option maxRecDepth 100000 in
set_option maxHeartbeats 4000000 in
theorem wL_law_1315 {z : Zx} {fx : Fx} {nmL : String} {r : Nat} {N Nz : Mem} {L nc ns : Nat} {xs : Nat → Int32} (hz : Zok z fx true RL nmL cL_law ret 4 (r + 80) 600000 7302250 (some (.float 0)) Nz) (hX : Lw z L xs) (hR : LwEnd z) (hnc : nc ≤ 599000) (hns : ns ≤ 7300000) {K18 : Mem → Nat → Nat → Int32 → Option (Unit × Mem)} (hK18 : ∀ {M : Mem} {l1 : Nat} {l2 : Nat} {l3 : Int32}, K18 M l1 l2 l3 = some ((), N) → V z 18 [some (.retAddr 30), some (.ref l1), some (.ref l2), some (.int l3)] [] M nc ns) {M : Mem} {l1 : Nat} {l2 : Nat} {l3 : Int32} (h : gL_law_1315 xs L K18 M l1 l2 l3 = some ((), N)) : V z 1315 [some (.retAddr 30), some (.ref l1), some (.ref l2), some (.int l3)] [] M nc ns := by
  unfold gL_law_1315 at h
  refine v_iinc hz (v := (l3 + (6 : Int32))) (lw := [some (.retAddr 30), some (.ref l1), some (.ref l2), some (.int (l3 + (6 : Int32)))]) rfl (congrArg (fun q => l3 + q) (show Int32.ofInt (6) = (6 : Int32) by decide)) rfl rfl dL_law_1315 ?_
  refine v_goto (tgt := 18) hz dL_law_1318 (by decide) ?_
  exact v_weak (lvle_s (lvle_s (lvle_s (lvle_s lvle_0)))) (hK18 h)
set_option maxRecDepth 100000 in
set_option maxHeartbeats 4000000 in
theorem wL_law_400 {z : Zx} {fx : Fx} {nmL : String} {r : Nat} {N Nz : Mem} {L nc ns : Nat} {xs : Nat → Int32} (hz : Zok z fx true RL nmL cL_law ret 4 (r + 80) 600000 7302250 (some (.float 0)) Nz) (hX : Lw z L xs) (hR : LwEnd z) (hnc : nc ≤ 599000) (hns : ns ≤ 7300000) {K18 : Mem → Nat → Nat → Int32 → Option (Unit × Mem)} (hK18 : ∀ {M : Mem} {l1 : Nat} {l2 : Nat} {l3 : Int32}, K18 M l1 l2 l3 = some ((), N) → V z 18 [some (.retAddr 30), some (.ref l1), some (.ref l2), some (.int l3)] [] M nc ns) {M : Mem} {l1 : Nat} {l2 : Nat} {l3 : Int32} {s0 : Int32} {s1 : Int32} {s2 : Nat} {s3 : Int32} (h : gL_law_400 xs L K18 M l1 l2 l3 s0 s1 s2 s3 = some ((), N)) : V z 400 [some (.retAddr 30), some (.ref l1), some (.ref l2), some (.int l3)] [.int s0, .int s1, .ref s2, .int s3] M nc ns := by
  unfold gL_law_400 at h
  obtain ⟨ck51, h⟩ := ck_inv h
  obtain ⟨ka51, kb51⟩ := isK_of ck51
  obtain ⟨x52, M52, e52, h⟩ := bd_inv h
  refine v_callV hz (As := [.int s1, .int s0]) vl_L_39 (tX12_away (r + 77) e52) rfl (by decide) ka51 kb51 rfl rfl rfl (Nat.le_of_ble_eq_true rfl) ⟨by omega, by omega⟩ dL_law_400 ?_
  show V z 403 [some (.retAddr 30), some (.ref l1), some (.ref l2), some (.int l3)] [.int x52, .int s3] M52 (nc + 0) (ns + 0)
  refine v_icmp_eq (tgt := 1315) hz dL_law_403 (by decide) (fun hc => ?_) (fun hc => ?_)
  · replace h := (if_pos hc).symm.trans h
    exact v_weak (lvle_s (lvle_s (lvle_s (lvle_s lvle_0)))) (wL_law_1315 hz hX hR (by omega) (by omega) (fun h => hK18 h) h)
  · replace h := (if_neg hc).symm.trans h
    refine v_iconst hz (v := (0 : Int32)) (by decide) dL_law_406 ?_
    cases h
set_option maxRecDepth 100000 in
set_option maxHeartbeats 4000000 in
theorem wL_law_378 {z : Zx} {fx : Fx} {nmL : String} {r : Nat} {N Nz : Mem} {L nc ns : Nat} {xs : Nat → Int32} (hz : Zok z fx true RL nmL cL_law ret 4 (r + 80) 600000 7302250 (some (.float 0)) Nz) (hX : Lw z L xs) (hR : LwEnd z) (hnc : nc ≤ 599000) (hns : ns ≤ 7300000) {K18 : Mem → Nat → Nat → Int32 → Option (Unit × Mem)} (hK18 : ∀ {M : Mem} {l1 : Nat} {l2 : Nat} {l3 : Int32}, K18 M l1 l2 l3 = some ((), N) → V z 18 [some (.retAddr 30), some (.ref l1), some (.ref l2), some (.int l3)] [] M nc ns) {M : Mem} {l1 : Nat} {l2 : Nat} {l3 : Int32} {s0 : Int32} {s1 : Int32} {s2 : Nat} (h : gL_law_378 xs L K18 M l1 l2 l3 s0 s1 s2 = some ((), N)) : V z 378 [some (.retAddr 30), some (.ref l1), some (.ref l2), some (.int l3)] [.int s0, .int s1, .ref s2] M nc ns := by
  unfold gL_law_378 at h
  obtain ⟨ck47, h⟩ := ck_inv h
  obtain ⟨ka47, kb47⟩ := isK_of ck47
  obtain ⟨x48, M48, e48, h⟩ := bd_inv h
  refine v_callV hz (As := [.int s1, .int s0]) vl_L_35 (tX11_away (r + 78) e48) rfl (by decide) ka47 kb47 rfl rfl rfl (Nat.le_of_ble_eq_true rfl) ⟨by omega, by omega⟩ dL_law_378 ?_
  show V z 381 [some (.retAddr 30), some (.ref l1), some (.ref l2), some (.int l3)] [.int x48] M48 (nc + 0) (ns + 0)
  refine v_aload_n hz rfl rfl dL_law_381 ?_
  refine v_xload_n hz rfl rfl dL_law_382 ?_
  refine v_iload_n hz rfl rfl dL_law_383 ?_
  refine v_iconst hz (v := (1 : Int32)) (by decide) dL_law_384 ?_
  refine v_iadd hz dL_law_385 ?_
  obtain ⟨g49, h⟩ := ck_inv h
  refine v_sload hz hX dL_law_386 g49 ?_
  refine v_xload_n hz rfl rfl dL_law_387 ?_
  refine v_iload_n hz rfl rfl dL_law_388 ?_
  refine v_iconst hz (v := (2 : Int32)) (by decide) dL_law_389 ?_
  refine v_iadd hz dL_law_390 ?_
  obtain ⟨g50, h⟩ := ck_inv h
  refine v_sload hz hX dL_law_391 g50 ?_
  refine v_if_eq (tgt := 399) hz dL_law_392 (by decide) (fun hc => ?_) (fun hc => ?_)
  · replace h := (if_pos hc).symm.trans h
    refine v_iconst hz (v := (0 : Int32)) (by decide) dL_law_399 ?_
    exact v_weak (lvle_s (lvle_s (lvle_s (lvle_s lvle_0)))) (wL_law_400 hz hX hR (by omega) (by omega) (fun h => hK18 h) h)
  · replace h := (if_neg hc).symm.trans h
    refine v_iconst hz (v := (1 : Int32)) (by decide) dL_law_395 ?_
    refine v_goto (tgt := 400) hz dL_law_396 (by decide) ?_
    exact v_weak (lvle_s (lvle_s (lvle_s (lvle_s lvle_0)))) (wL_law_400 hz hX hR (by omega) (by omega) (fun h => hK18 h) h)
set_option maxRecDepth 100000 in
set_option maxHeartbeats 8000000 in
theorem wL_law {z : Zx} {fx : Fx} {nmL : String} {r : Nat} {N Nz : Mem} {L nc ns : Nat} {xs : Nat → Int32} (hz : Zok z fx true RL nmL cL_law ret 4 (r + 80) 600000 7302250 (some (.float 0)) Nz) (hX : Lw z L xs) (hR : LwEnd z) (hnc : nc ≤ 598990) (hns : ns ≤ 7299000) {K18 : Mem → Nat → Nat → Int32 → Option (Unit × Mem)} (hK18 : ∀ {M : Mem} {l1 l2 : Nat} {l3 : Int32} {nc2 ns2 : Nat}, K18 M l1 l2 l3 = some ((), N) → nc2 ≤ nc + 2 → ns2 ≤ ns + 107 → V z 18 [some (.retAddr 30), some (.ref l1), some (.ref l2), some (.int l3)] [] M nc2 ns2) {M : Mem} {l1 l2 : Nat} {l3 : Int32} (h : bL_law xs L K18 M l1 l2 l3 = some ((), N)) : V z 18 [some (.retAddr 30), some (.ref l1), some (.ref l2), some (.int l3)] [] M nc ns := by
  unfold bL_law at h
  refine v_iload_n hz rfl rfl dL_law_18 ?_
  refine v_xload_n hz rfl rfl dL_law_19 ?_
  refine v_slen hz hX dL_law_20 ?_
  refine v_bipush hz (v := (6 : Int32)) (by decide) dL_law_21 ?_
  refine v_isub hz dL_law_23 ?_
  refine v_icmp_gt (tgt := 1321) hz dL_law_24 (by decide) (fun hc => ?_) (fun hc => ?_)
  · replace h := (if_pos hc).symm.trans h
    refine v_iconst hz (v := (1 : Int32)) (by decide) dL_law_1321 ?_
    exact hR dL_law_1322 (by omega) (by omega)
  · replace h := (if_neg hc).symm.trans h
    refine v_xload_n hz rfl rfl dL_law_27 ?_
    refine v_iload_n hz rfl rfl dL_law_28 ?_
    obtain ⟨g1, h⟩ := ck_inv h
    refine v_sload hz hX dL_law_29 g1 ?_
    refine v_bipush hz (v := (63 : Int32)) (by decide) dL_law_30 ?_
    refine v_iand hz dL_law_32 ?_
    by_cases hs2_0 : ((xs l3.toNatClampNeg) &&& (63 : Int32)) = (0 : Int32)
    · replace h := (if_pos hs2_0).symm.trans h
      refine v_tableAt (tgt := 184) hz hs2_0 dL_law_33 (by decide) (by decide) (by decide) (by decide) ?_
      refine v_aload_n hz rfl rfl dL_law_184 ?_
      refine v_xload_n hz rfl rfl dL_law_185 ?_
      refine v_iload_n hz rfl rfl dL_law_186 ?_
      refine v_iconst hz (v := (1 : Int32)) (by decide) dL_law_187 ?_
      refine v_iadd hz dL_law_188 ?_
      obtain ⟨g3, h⟩ := ck_inv h
      refine v_sload hz hX dL_law_189 g3 ?_
      refine v_xload_n hz rfl rfl dL_law_190 ?_
      refine v_iload_n hz rfl rfl dL_law_191 ?_
      refine v_iconst hz (v := (2 : Int32)) (by decide) dL_law_192 ?_
      refine v_iadd hz dL_law_193 ?_
      obtain ⟨g4, h⟩ := ck_inv h
      refine v_sload hz hX dL_law_194 g4 ?_
      refine v_xload_n hz rfl rfl dL_law_195 ?_
      refine v_iload_n hz rfl rfl dL_law_196 ?_
      refine v_iconst hz (v := (3 : Int32)) (by decide) dL_law_197 ?_
      refine v_iadd hz dL_law_198 ?_
      obtain ⟨g5, h⟩ := ck_inv h
      refine v_sload hz hX dL_law_199 g5 ?_
      obtain ⟨ck6, h⟩ := ck_inv h
      obtain ⟨ka6, kb6⟩ := isK_of ck6
      obtain ⟨x7, M7, e7, h⟩ := bd_inv h
      refine v_callV hz (As := [.int (xs (l3 + (1 : Int32)).toNatClampNeg), .int (xs (l3 + (2 : Int32)).toNatClampNeg), .int (xs (l3 + (3 : Int32)).toNatClampNeg)]) vl_L_13 (tX11_one (r + 78) e7) rfl (by decide) ka6 kb6 rfl rfl rfl (Nat.le_of_ble_eq_true rfl) ⟨by omega, by omega⟩ dL_law_200 ?_
      show V z 203 [some (.retAddr 30), some (.ref l1), some (.ref l2), some (.int l3)] [.int x7] M7 (nc + 0) (ns + 0)
      refine v_aload_n hz rfl rfl dL_law_203 ?_
      refine v_xload_n hz rfl rfl dL_law_204 ?_
      refine v_iload_n hz rfl rfl dL_law_205 ?_
      refine v_iconst hz (v := (1 : Int32)) (by decide) dL_law_206 ?_
      refine v_iadd hz dL_law_207 ?_
      obtain ⟨g8, h⟩ := ck_inv h
      refine v_sload hz hX dL_law_208 g8 ?_
      refine v_xload_n hz rfl rfl dL_law_209 ?_
      refine v_iload_n hz rfl rfl dL_law_210 ?_
      refine v_iconst hz (v := (2 : Int32)) (by decide) dL_law_211 ?_
      refine v_iadd hz dL_law_212 ?_
      obtain ⟨g9, h⟩ := ck_inv h
      refine v_sload hz hX dL_law_213 g9 ?_
      refine v_xload_n hz rfl rfl dL_law_214 ?_
      refine v_iload_n hz rfl rfl dL_law_215 ?_
      refine v_iconst hz (v := (3 : Int32)) (by decide) dL_law_216 ?_
      refine v_iadd hz dL_law_217 ?_
      obtain ⟨g10, h⟩ := ck_inv h
      refine v_sload hz hX dL_law_218 g10 ?_
      obtain ⟨ck11, h⟩ := ck_inv h
      obtain ⟨ka11, kb11⟩ := isK_of ck11
      obtain ⟨x12, M12, e12, h⟩ := bd_inv h
      refine v_callV hz (As := [.int (xs (l3 + (1 : Int32)).toNatClampNeg), .int (xs (l3 + (2 : Int32)).toNatClampNeg), .int (xs (l3 + (3 : Int32)).toNatClampNeg)]) vl_L_17 (tX12_one (r + 77) e12) rfl (by decide) ka11 kb11 rfl rfl rfl (Nat.le_of_ble_eq_true rfl) ⟨by omega, by omega⟩ dL_law_219 ?_
      show V z 222 [some (.retAddr 30), some (.ref l1), some (.ref l2), some (.int l3)] [.int x12, .int x7] M12 (nc + 0) (ns + 0)
      refine v_icmp_eq (tgt := 1315) hz dL_law_222 (by decide) (fun hc => ?_) (fun hc => ?_)
      · replace h := (if_pos hc).symm.trans h
        exact v_weak (lvle_s (lvle_s (lvle_s (lvle_s lvle_0)))) (wL_law_1315 hz hX hR (by omega) (by omega) (fun h => hK18 h (by omega) (by omega)) h)
      · replace h := (if_neg hc).symm.trans h
        refine v_iconst hz (v := (0 : Int32)) (by decide) dL_law_225 ?_
        cases h
    replace h := (if_neg hs2_0).symm.trans h
    by_cases hs2_1 : ((xs l3.toNatClampNeg) &&& (63 : Int32)) = (1 : Int32)
    · replace h := (if_pos hs2_1).symm.trans h
      refine v_tableAt (tgt := 227) hz hs2_1 dL_law_33 (by decide) (by decide) (by decide) (by decide) ?_
      refine v_aload_n hz rfl rfl dL_law_227 ?_
      refine v_xload_n hz rfl rfl dL_law_228 ?_
      refine v_iload_n hz rfl rfl dL_law_229 ?_
      refine v_iconst hz (v := (1 : Int32)) (by decide) dL_law_230 ?_
      refine v_iadd hz dL_law_231 ?_
      obtain ⟨g13, h⟩ := ck_inv h
      refine v_sload hz hX dL_law_232 g13 ?_
      refine v_xload_n hz rfl rfl dL_law_233 ?_
      refine v_iload_n hz rfl rfl dL_law_234 ?_
      refine v_iconst hz (v := (2 : Int32)) (by decide) dL_law_235 ?_
      refine v_iadd hz dL_law_236 ?_
      obtain ⟨g14, h⟩ := ck_inv h
      refine v_sload hz hX dL_law_237 g14 ?_
      obtain ⟨ck15, h⟩ := ck_inv h
      obtain ⟨ka15, kb15⟩ := isK_of ck15
      obtain ⟨x16, M16, e16, h⟩ := bd_inv h
      refine v_callV hz (As := [.int (xs (l3 + (1 : Int32)).toNatClampNeg), .int (xs (l3 + (2 : Int32)).toNatClampNeg)]) vl_L_18 (tX11_of (r + 75) e16) rfl (by decide) ka15 kb15 rfl rfl rfl (Nat.le_of_ble_eq_true rfl) ⟨by omega, by omega⟩ dL_law_238 ?_
      show V z 241 [some (.retAddr 30), some (.ref l1), some (.ref l2), some (.int l3)] [.int x16] M16 (nc + 0) (ns + 0)
      refine v_aload_n hz rfl rfl dL_law_241 ?_
      refine v_xload_n hz rfl rfl dL_law_242 ?_
      refine v_iload_n hz rfl rfl dL_law_243 ?_
      refine v_iconst hz (v := (1 : Int32)) (by decide) dL_law_244 ?_
      refine v_iadd hz dL_law_245 ?_
      obtain ⟨g17, h⟩ := ck_inv h
      refine v_sload hz hX dL_law_246 g17 ?_
      refine v_xload_n hz rfl rfl dL_law_247 ?_
      refine v_iload_n hz rfl rfl dL_law_248 ?_
      refine v_iconst hz (v := (2 : Int32)) (by decide) dL_law_249 ?_
      refine v_iadd hz dL_law_250 ?_
      obtain ⟨g18, h⟩ := ck_inv h
      refine v_sload hz hX dL_law_251 g18 ?_
      obtain ⟨ck19, h⟩ := ck_inv h
      obtain ⟨ka19, kb19⟩ := isK_of ck19
      obtain ⟨x20, M20, e20, h⟩ := bd_inv h
      refine v_callV hz (As := [.int (xs (l3 + (1 : Int32)).toNatClampNeg), .int (xs (l3 + (2 : Int32)).toNatClampNeg)]) vl_L_22 (tX12_of (r + 74) e20) rfl (by decide) ka19 kb19 rfl rfl rfl (Nat.le_of_ble_eq_true rfl) ⟨by omega, by omega⟩ dL_law_252 ?_
      show V z 255 [some (.retAddr 30), some (.ref l1), some (.ref l2), some (.int l3)] [.int x20, .int x16] M20 (nc + 0) (ns + 0)
      refine v_icmp_eq (tgt := 1315) hz dL_law_255 (by decide) (fun hc => ?_) (fun hc => ?_)
      · replace h := (if_pos hc).symm.trans h
        exact v_weak (lvle_s (lvle_s (lvle_s (lvle_s lvle_0)))) (wL_law_1315 hz hX hR (by omega) (by omega) (fun h => hK18 h (by omega) (by omega)) h)
      · replace h := (if_neg hc).symm.trans h
        refine v_iconst hz (v := (0 : Int32)) (by decide) dL_law_258 ?_
        cases h
    replace h := (if_neg hs2_1).symm.trans h
    by_cases hs2_2 : ((xs l3.toNatClampNeg) &&& (63 : Int32)) = (2 : Int32)
    · replace h := (if_pos hs2_2).symm.trans h
      refine v_tableAt (tgt := 260) hz hs2_2 dL_law_33 (by decide) (by decide) (by decide) (by decide) ?_
      refine v_aload_n hz rfl rfl dL_law_260 ?_
      refine v_xload_n hz rfl rfl dL_law_261 ?_
      refine v_iload_n hz rfl rfl dL_law_262 ?_
      refine v_iconst hz (v := (1 : Int32)) (by decide) dL_law_263 ?_
      refine v_iadd hz dL_law_264 ?_
      obtain ⟨g21, h⟩ := ck_inv h
      refine v_sload hz hX dL_law_265 g21 ?_
      refine v_xload_n hz rfl rfl dL_law_266 ?_
      refine v_iload_n hz rfl rfl dL_law_267 ?_
      refine v_iconst hz (v := (2 : Int32)) (by decide) dL_law_268 ?_
      refine v_iadd hz dL_law_269 ?_
      obtain ⟨g22, h⟩ := ck_inv h
      refine v_sload hz hX dL_law_270 g22 ?_
      obtain ⟨ck23, h⟩ := ck_inv h
      obtain ⟨ka23, kb23⟩ := isK_of ck23
      obtain ⟨x24, M24, e24, h⟩ := bd_inv h
      refine v_callV hz (As := [.int (xs (l3 + (1 : Int32)).toNatClampNeg), .int (xs (l3 + (2 : Int32)).toNatClampNeg)]) vl_L_23 (tX11_pull (r + 76) e24) rfl (by decide) ka23 kb23 rfl rfl rfl (Nat.le_of_ble_eq_true rfl) ⟨by omega, by omega⟩ dL_law_271 ?_
      show V z 274 [some (.retAddr 30), some (.ref l1), some (.ref l2), some (.int l3)] [.int x24] M24 (nc + 0) (ns + 0)
      refine v_aload_n hz rfl rfl dL_law_274 ?_
      refine v_xload_n hz rfl rfl dL_law_275 ?_
      refine v_iload_n hz rfl rfl dL_law_276 ?_
      refine v_iconst hz (v := (1 : Int32)) (by decide) dL_law_277 ?_
      refine v_iadd hz dL_law_278 ?_
      obtain ⟨g25, h⟩ := ck_inv h
      refine v_sload hz hX dL_law_279 g25 ?_
      refine v_xload_n hz rfl rfl dL_law_280 ?_
      refine v_iload_n hz rfl rfl dL_law_281 ?_
      refine v_iconst hz (v := (2 : Int32)) (by decide) dL_law_282 ?_
      refine v_iadd hz dL_law_283 ?_
      obtain ⟨g26, h⟩ := ck_inv h
      refine v_sload hz hX dL_law_284 g26 ?_
      obtain ⟨ck27, h⟩ := ck_inv h
      obtain ⟨ka27, kb27⟩ := isK_of ck27
      obtain ⟨x28, M28, e28, h⟩ := bd_inv h
      refine v_callV hz (As := [.int (xs (l3 + (1 : Int32)).toNatClampNeg), .int (xs (l3 + (2 : Int32)).toNatClampNeg)]) vl_L_26 (tX12_pull (r + 75) e28) rfl (by decide) ka27 kb27 rfl rfl rfl (Nat.le_of_ble_eq_true rfl) ⟨by omega, by omega⟩ dL_law_285 ?_
      show V z 288 [some (.retAddr 30), some (.ref l1), some (.ref l2), some (.int l3)] [.int x28, .int x24] M28 (nc + 0) (ns + 0)
      refine v_icmp_eq (tgt := 1315) hz dL_law_288 (by decide) (fun hc => ?_) (fun hc => ?_)
      · replace h := (if_pos hc).symm.trans h
        exact v_weak (lvle_s (lvle_s (lvle_s (lvle_s lvle_0)))) (wL_law_1315 hz hX hR (by omega) (by omega) (fun h => hK18 h (by omega) (by omega)) h)
      · replace h := (if_neg hc).symm.trans h
        refine v_iconst hz (v := (0 : Int32)) (by decide) dL_law_291 ?_
        cases h
    replace h := (if_neg hs2_2).symm.trans h
    by_cases hs2_3 : ((xs l3.toNatClampNeg) &&& (63 : Int32)) = (3 : Int32)
    · replace h := (if_pos hs2_3).symm.trans h
      refine v_tableAt (tgt := 293) hz hs2_3 dL_law_33 (by decide) (by decide) (by decide) (by decide) ?_
      refine v_aload_n hz rfl rfl dL_law_293 ?_
      refine v_xload_n hz rfl rfl dL_law_294 ?_
      refine v_iload_n hz rfl rfl dL_law_295 ?_
      refine v_iconst hz (v := (1 : Int32)) (by decide) dL_law_296 ?_
      refine v_iadd hz dL_law_297 ?_
      obtain ⟨g29, h⟩ := ck_inv h
      refine v_sload hz hX dL_law_298 g29 ?_
      refine v_xload_n hz rfl rfl dL_law_299 ?_
      refine v_iload_n hz rfl rfl dL_law_300 ?_
      refine v_iconst hz (v := (2 : Int32)) (by decide) dL_law_301 ?_
      refine v_iadd hz dL_law_302 ?_
      obtain ⟨g30, h⟩ := ck_inv h
      refine v_sload hz hX dL_law_303 g30 ?_
      obtain ⟨ck31, h⟩ := ck_inv h
      obtain ⟨ka31, kb31⟩ := isK_of ck31
      obtain ⟨x32, M32, e32, h⟩ := bd_inv h
      refine v_callV hz (As := [.int (xs (l3 + (1 : Int32)).toNatClampNeg), .int (xs (l3 + (2 : Int32)).toNatClampNeg)]) vl_L_27 (tX11_put (r + 78) e32) rfl (by decide) ka31 kb31 rfl rfl rfl (Nat.le_of_ble_eq_true rfl) ⟨by omega, by omega⟩ dL_law_304 ?_
      show V z 307 [some (.retAddr 30), some (.ref l1), some (.ref l2), some (.int l3)] [.int x32] M32 (nc + 0) (ns + 0)
      refine v_aload_n hz rfl rfl dL_law_307 ?_
      refine v_xload_n hz rfl rfl dL_law_308 ?_
      refine v_iload_n hz rfl rfl dL_law_309 ?_
      refine v_iconst hz (v := (1 : Int32)) (by decide) dL_law_310 ?_
      refine v_iadd hz dL_law_311 ?_
      obtain ⟨g33, h⟩ := ck_inv h
      refine v_sload hz hX dL_law_312 g33 ?_
      refine v_xload_n hz rfl rfl dL_law_313 ?_
      refine v_iload_n hz rfl rfl dL_law_314 ?_
      refine v_iconst hz (v := (2 : Int32)) (by decide) dL_law_315 ?_
      refine v_iadd hz dL_law_316 ?_
      obtain ⟨g34, h⟩ := ck_inv h
      refine v_sload hz hX dL_law_317 g34 ?_
      obtain ⟨ck35, h⟩ := ck_inv h
      obtain ⟨ka35, kb35⟩ := isK_of ck35
      obtain ⟨x36, M36, e36, h⟩ := bd_inv h
      refine v_callV hz (As := [.int (xs (l3 + (1 : Int32)).toNatClampNeg), .int (xs (l3 + (2 : Int32)).toNatClampNeg)]) vl_L_30 (tX12_put (r + 77) e36) rfl (by decide) ka35 kb35 rfl rfl rfl (Nat.le_of_ble_eq_true rfl) ⟨by omega, by omega⟩ dL_law_318 ?_
      show V z 321 [some (.retAddr 30), some (.ref l1), some (.ref l2), some (.int l3)] [.int x36, .int x32] M36 (nc + 0) (ns + 0)
      refine v_icmp_eq (tgt := 1315) hz dL_law_321 (by decide) (fun hc => ?_) (fun hc => ?_)
      · replace h := (if_pos hc).symm.trans h
        exact v_weak (lvle_s (lvle_s (lvle_s (lvle_s lvle_0)))) (wL_law_1315 hz hX hR (by omega) (by omega) (fun h => hK18 h (by omega) (by omega)) h)
      · replace h := (if_neg hc).symm.trans h
        refine v_iconst hz (v := (0 : Int32)) (by decide) dL_law_324 ?_
        cases h
    replace h := (if_neg hs2_3).symm.trans h
    by_cases hs2_4 : ((xs l3.toNatClampNeg) &&& (63 : Int32)) = (4 : Int32)
    · replace h := (if_pos hs2_4).symm.trans h
      refine v_tableAt (tgt := 326) hz hs2_4 dL_law_33 (by decide) (by decide) (by decide) (by decide) ?_
      refine v_aload_n hz rfl rfl dL_law_326 ?_
      refine v_xload_n hz rfl rfl dL_law_327 ?_
      refine v_iload_n hz rfl rfl dL_law_328 ?_
      refine v_iconst hz (v := (1 : Int32)) (by decide) dL_law_329 ?_
      refine v_iadd hz dL_law_330 ?_
      obtain ⟨g37, h⟩ := ck_inv h
      refine v_sload hz hX dL_law_331 g37 ?_
      refine v_xload_n hz rfl rfl dL_law_332 ?_
      refine v_iload_n hz rfl rfl dL_law_333 ?_
      refine v_iconst hz (v := (2 : Int32)) (by decide) dL_law_334 ?_
      refine v_iadd hz dL_law_335 ?_
      obtain ⟨g38, h⟩ := ck_inv h
      refine v_sload hz hX dL_law_336 g38 ?_
      obtain ⟨ck39, h⟩ := ck_inv h
      obtain ⟨ka39, kb39⟩ := isK_of ck39
      obtain ⟨x40, M40, e40, h⟩ := bd_inv h
      refine v_callV hz (As := [.int (xs (l3 + (1 : Int32)).toNatClampNeg), .int (xs (l3 + (2 : Int32)).toNatClampNeg)]) vl_L_31 (tX11_wear (r + 78) e40) rfl (by decide) ka39 kb39 rfl rfl rfl (Nat.le_of_ble_eq_true rfl) ⟨by omega, by omega⟩ dL_law_337 ?_
      show V z 340 [some (.retAddr 30), some (.ref l1), some (.ref l2), some (.int l3)] [.int x40] M40 (nc + 0) (ns + 0)
      refine v_aload_n hz rfl rfl dL_law_340 ?_
      refine v_xload_n hz rfl rfl dL_law_341 ?_
      refine v_iload_n hz rfl rfl dL_law_342 ?_
      refine v_iconst hz (v := (1 : Int32)) (by decide) dL_law_343 ?_
      refine v_iadd hz dL_law_344 ?_
      obtain ⟨g41, h⟩ := ck_inv h
      refine v_sload hz hX dL_law_345 g41 ?_
      refine v_xload_n hz rfl rfl dL_law_346 ?_
      refine v_iload_n hz rfl rfl dL_law_347 ?_
      refine v_iconst hz (v := (2 : Int32)) (by decide) dL_law_348 ?_
      refine v_iadd hz dL_law_349 ?_
      obtain ⟨g42, h⟩ := ck_inv h
      refine v_sload hz hX dL_law_350 g42 ?_
      obtain ⟨ck43, h⟩ := ck_inv h
      obtain ⟨ka43, kb43⟩ := isK_of ck43
      obtain ⟨x44, M44, e44, h⟩ := bd_inv h
      refine v_callV hz (As := [.int (xs (l3 + (1 : Int32)).toNatClampNeg), .int (xs (l3 + (2 : Int32)).toNatClampNeg)]) vl_L_34 (tX12_wear (r + 77) e44) rfl (by decide) ka43 kb43 rfl rfl rfl (Nat.le_of_ble_eq_true rfl) ⟨by omega, by omega⟩ dL_law_351 ?_
      show V z 354 [some (.retAddr 30), some (.ref l1), some (.ref l2), some (.int l3)] [.int x44, .int x40] M44 (nc + 0) (ns + 0)
      refine v_icmp_eq (tgt := 1315) hz dL_law_354 (by decide) (fun hc => ?_) (fun hc => ?_)
      · replace h := (if_pos hc).symm.trans h
        exact v_weak (lvle_s (lvle_s (lvle_s (lvle_s lvle_0)))) (wL_law_1315 hz hX hR (by omega) (by omega) (fun h => hK18 h (by omega) (by omega)) h)
      · replace h := (if_neg hc).symm.trans h
        refine v_iconst hz (v := (0 : Int32)) (by decide) dL_law_357 ?_
        cases h
    replace h := (if_neg hs2_4).symm.trans h
    by_cases hs2_5 : ((xs l3.toNatClampNeg) &&& (63 : Int32)) = (5 : Int32)
    · replace h := (if_pos hs2_5).symm.trans h
      refine v_tableAt (tgt := 359) hz hs2_5 dL_law_33 (by decide) (by decide) (by decide) (by decide) ?_
      refine v_aload_n hz rfl rfl dL_law_359 ?_
      refine v_xload_n hz rfl rfl dL_law_360 ?_
      refine v_iload_n hz rfl rfl dL_law_361 ?_
      refine v_iconst hz (v := (1 : Int32)) (by decide) dL_law_362 ?_
      refine v_iadd hz dL_law_363 ?_
      obtain ⟨g45, h⟩ := ck_inv h
      refine v_sload hz hX dL_law_364 g45 ?_
      refine v_xload_n hz rfl rfl dL_law_365 ?_
      refine v_iload_n hz rfl rfl dL_law_366 ?_
      refine v_iconst hz (v := (2 : Int32)) (by decide) dL_law_367 ?_
      refine v_iadd hz dL_law_368 ?_
      obtain ⟨g46, h⟩ := ck_inv h
      refine v_sload hz hX dL_law_369 g46 ?_
      refine v_if_eq (tgt := 377) hz dL_law_370 (by decide) (fun hc => ?_) (fun hc => ?_)
      · replace h := (if_pos hc).symm.trans h
        refine v_iconst hz (v := (0 : Int32)) (by decide) dL_law_377 ?_
        exact v_weak (lvle_s (lvle_s (lvle_s (lvle_s lvle_0)))) (wL_law_378 hz hX hR (by omega) (by omega) (fun h => hK18 h (by omega) (by omega)) h)
      · replace h := (if_neg hc).symm.trans h
        refine v_iconst hz (v := (1 : Int32)) (by decide) dL_law_373 ?_
        refine v_goto (tgt := 378) hz dL_law_374 (by decide) ?_
        exact v_weak (lvle_s (lvle_s (lvle_s (lvle_s lvle_0)))) (wL_law_378 hz hX hR (by omega) (by omega) (fun h => hK18 h (by omega) (by omega)) h)
    replace h := (if_neg hs2_5).symm.trans h
    by_cases hs2_6 : ((xs l3.toNatClampNeg) &&& (63 : Int32)) = (6 : Int32)
    · replace h := (if_pos hs2_6).symm.trans h
      refine v_tableAt (tgt := 408) hz hs2_6 dL_law_33 (by decide) (by decide) (by decide) (by decide) ?_
      refine v_aload_n hz rfl rfl dL_law_408 ?_
      refine v_xload_n hz rfl rfl dL_law_409 ?_
      refine v_iload_n hz rfl rfl dL_law_410 ?_
      refine v_iconst hz (v := (1 : Int32)) (by decide) dL_law_411 ?_
      refine v_iadd hz dL_law_412 ?_
      obtain ⟨g53, h⟩ := ck_inv h
      refine v_sload hz hX dL_law_413 g53 ?_
      refine v_xload_n hz rfl rfl dL_law_414 ?_
      refine v_iload_n hz rfl rfl dL_law_415 ?_
      refine v_iconst hz (v := (2 : Int32)) (by decide) dL_law_416 ?_
      refine v_iadd hz dL_law_417 ?_
      obtain ⟨g54, h⟩ := ck_inv h
      refine v_sload hz hX dL_law_418 g54 ?_
      refine v_xload_n hz rfl rfl dL_law_419 ?_
      refine v_iload_n hz rfl rfl dL_law_420 ?_
      refine v_iconst hz (v := (3 : Int32)) (by decide) dL_law_421 ?_
      refine v_iadd hz dL_law_422 ?_
      obtain ⟨g55, h⟩ := ck_inv h
      refine v_sload hz hX dL_law_423 g55 ?_
      obtain ⟨ck56, h⟩ := ck_inv h
      obtain ⟨ka56, kb56⟩ := isK_of ck56
      obtain ⟨x57, M57, e57, h⟩ := bd_inv h
      refine v_callV hz (As := [.int (xs (l3 + (1 : Int32)).toNatClampNeg), .int (xs (l3 + (2 : Int32)).toNatClampNeg), .int (xs (l3 + (3 : Int32)).toNatClampNeg)]) vl_L_40 (tX11_row (r + 78) e57) rfl (by decide) ka56 kb56 rfl rfl rfl (Nat.le_of_ble_eq_true rfl) ⟨by omega, by omega⟩ dL_law_424 ?_
      show V z 427 [some (.retAddr 30), some (.ref l1), some (.ref l2), some (.int l3)] [.int x57] M57 (nc + 0) (ns + 0)
      refine v_aload_n hz rfl rfl dL_law_427 ?_
      refine v_xload_n hz rfl rfl dL_law_428 ?_
      refine v_iload_n hz rfl rfl dL_law_429 ?_
      refine v_iconst hz (v := (1 : Int32)) (by decide) dL_law_430 ?_
      refine v_iadd hz dL_law_431 ?_
      obtain ⟨g58, h⟩ := ck_inv h
      refine v_sload hz hX dL_law_432 g58 ?_
      refine v_xload_n hz rfl rfl dL_law_433 ?_
      refine v_iload_n hz rfl rfl dL_law_434 ?_
      refine v_iconst hz (v := (2 : Int32)) (by decide) dL_law_435 ?_
      refine v_iadd hz dL_law_436 ?_
      obtain ⟨g59, h⟩ := ck_inv h
      refine v_sload hz hX dL_law_437 g59 ?_
      refine v_xload_n hz rfl rfl dL_law_438 ?_
      refine v_iload_n hz rfl rfl dL_law_439 ?_
      refine v_iconst hz (v := (3 : Int32)) (by decide) dL_law_440 ?_
      refine v_iadd hz dL_law_441 ?_
      obtain ⟨g60, h⟩ := ck_inv h
      refine v_sload hz hX dL_law_442 g60 ?_
      obtain ⟨ck61, h⟩ := ck_inv h
      obtain ⟨ka61, kb61⟩ := isK_of ck61
      obtain ⟨x62, M62, e62, h⟩ := bd_inv h
      refine v_callV hz (As := [.int (xs (l3 + (1 : Int32)).toNatClampNeg), .int (xs (l3 + (2 : Int32)).toNatClampNeg), .int (xs (l3 + (3 : Int32)).toNatClampNeg)]) vl_L_43 (tX12_row (r + 77) e62) rfl (by decide) ka61 kb61 rfl rfl rfl (Nat.le_of_ble_eq_true rfl) ⟨by omega, by omega⟩ dL_law_443 ?_
      show V z 446 [some (.retAddr 30), some (.ref l1), some (.ref l2), some (.int l3)] [.int x62, .int x57] M62 (nc + 0) (ns + 0)
      refine v_icmp_eq (tgt := 1315) hz dL_law_446 (by decide) (fun hc => ?_) (fun hc => ?_)
      · replace h := (if_pos hc).symm.trans h
        exact v_weak (lvle_s (lvle_s (lvle_s (lvle_s lvle_0)))) (wL_law_1315 hz hX hR (by omega) (by omega) (fun h => hK18 h (by omega) (by omega)) h)
      · replace h := (if_neg hc).symm.trans h
        refine v_iconst hz (v := (0 : Int32)) (by decide) dL_law_449 ?_
        cases h
    replace h := (if_neg hs2_6).symm.trans h
    by_cases hs2_7 : ((xs l3.toNatClampNeg) &&& (63 : Int32)) = (7 : Int32)
    · replace h := (if_pos hs2_7).symm.trans h
      refine v_tableAt (tgt := 451) hz hs2_7 dL_law_33 (by decide) (by decide) (by decide) (by decide) ?_
      refine v_aload_n hz rfl rfl dL_law_451 ?_
      refine v_xload_n hz rfl rfl dL_law_452 ?_
      refine v_iload_n hz rfl rfl dL_law_453 ?_
      refine v_iconst hz (v := (1 : Int32)) (by decide) dL_law_454 ?_
      refine v_iadd hz dL_law_455 ?_
      obtain ⟨g63, h⟩ := ck_inv h
      refine v_sload hz hX dL_law_456 g63 ?_
      obtain ⟨ck64, h⟩ := ck_inv h
      obtain ⟨ka64, kb64⟩ := isK_of ck64
      obtain ⟨x65, M65, e65, h⟩ := bd_inv h
      refine v_callV hz (As := [.int (xs (l3 + (1 : Int32)).toNatClampNeg)]) vl_L_44 (tX11_feed (r + 79) e65) rfl (by decide) ka64 kb64 rfl rfl rfl (Nat.le_of_ble_eq_true rfl) ⟨by omega, by omega⟩ dL_law_457 ?_
      show V z 460 [some (.retAddr 30), some (.ref l1), some (.ref l2), some (.int l3)] [.int x65] M65 (nc + 0) (ns + 0)
      refine v_aload_n hz rfl rfl dL_law_460 ?_
      refine v_xload_n hz rfl rfl dL_law_461 ?_
      refine v_iload_n hz rfl rfl dL_law_462 ?_
      refine v_iconst hz (v := (1 : Int32)) (by decide) dL_law_463 ?_
      refine v_iadd hz dL_law_464 ?_
      obtain ⟨g66, h⟩ := ck_inv h
      refine v_sload hz hX dL_law_465 g66 ?_
      obtain ⟨ck67, h⟩ := ck_inv h
      obtain ⟨ka67, kb67⟩ := isK_of ck67
      obtain ⟨x68, M68, e68, h⟩ := bd_inv h
      refine v_callV hz (As := [.int (xs (l3 + (1 : Int32)).toNatClampNeg)]) vl_L_48 (tX12_feed (r + 78) e68) rfl (by decide) ka67 kb67 rfl rfl rfl (Nat.le_of_ble_eq_true rfl) ⟨by omega, by omega⟩ dL_law_466 ?_
      show V z 469 [some (.retAddr 30), some (.ref l1), some (.ref l2), some (.int l3)] [.int x68, .int x65] M68 (nc + 0) (ns + 0)
      refine v_icmp_eq (tgt := 1315) hz dL_law_469 (by decide) (fun hc => ?_) (fun hc => ?_)
      · replace h := (if_pos hc).symm.trans h
        exact v_weak (lvle_s (lvle_s (lvle_s (lvle_s lvle_0)))) (wL_law_1315 hz hX hR (by omega) (by omega) (fun h => hK18 h (by omega) (by omega)) h)
      · replace h := (if_neg hc).symm.trans h
        refine v_iconst hz (v := (0 : Int32)) (by decide) dL_law_472 ?_
        cases h
    replace h := (if_neg hs2_7).symm.trans h
    by_cases hs2_8 : ((xs l3.toNatClampNeg) &&& (63 : Int32)) = (8 : Int32)
    · replace h := (if_pos hs2_8).symm.trans h
      refine v_tableAt (tgt := 474) hz hs2_8 dL_law_33 (by decide) (by decide) (by decide) (by decide) ?_
      refine v_aload_n hz rfl rfl dL_law_474 ?_
      obtain ⟨ck69, h⟩ := ck_inv h
      obtain ⟨ka69, kb69⟩ := isK_of ck69
      obtain ⟨x70, M70, e70, h⟩ := bd_inv h
      refine v_callV hz (As := []) vl_L_49 (tX11_statute (r + 47) e70) rfl (by decide) ka69 kb69 rfl rfl rfl (Nat.le_of_ble_eq_true rfl) ⟨by omega, by omega⟩ dL_law_475 ?_
      show V z 478 [some (.retAddr 30), some (.ref l1), some (.ref l2), some (.int l3)] [.int x70] M70 (nc + 2) (ns + 107)
      refine v_aload_n hz rfl rfl dL_law_478 ?_
      obtain ⟨ck71, h⟩ := ck_inv h
      obtain ⟨ka71, kb71⟩ := isK_of ck71
      obtain ⟨x72, M72, e72, h⟩ := bd_inv h
      refine v_callV hz (As := []) vl_L_53 (tX12_statute (r + 49) e72) rfl (by decide) ka71 kb71 rfl rfl rfl (Nat.le_of_ble_eq_true rfl) ⟨by omega, by omega⟩ dL_law_479 ?_
      show V z 482 [some (.retAddr 30), some (.ref l1), some (.ref l2), some (.int l3)] [.int x72, .int x70] M72 (nc + 2) (ns + 107)
      refine v_icmp_eq (tgt := 1315) hz dL_law_482 (by decide) (fun hc => ?_) (fun hc => ?_)
      · replace h := (if_pos hc).symm.trans h
        exact v_weak (lvle_s (lvle_s (lvle_s (lvle_s lvle_0)))) (wL_law_1315 hz hX hR (by omega) (by omega) (fun h => hK18 h (by omega) (by omega)) h)
      · replace h := (if_neg hc).symm.trans h
        refine v_iconst hz (v := (0 : Int32)) (by decide) dL_law_485 ?_
        cases h
    replace h := (if_neg hs2_8).symm.trans h
    by_cases hs2_9 : ((xs l3.toNatClampNeg) &&& (63 : Int32)) = (9 : Int32)
    · replace h := (if_pos hs2_9).symm.trans h
      refine v_tableAt (tgt := 487) hz hs2_9 dL_law_33 (by decide) (by decide) (by decide) (by decide) ?_
      refine v_aload_n hz rfl rfl dL_law_487 ?_
      refine v_xload_n hz rfl rfl dL_law_488 ?_
      refine v_iload_n hz rfl rfl dL_law_489 ?_
      refine v_iconst hz (v := (1 : Int32)) (by decide) dL_law_490 ?_
      refine v_iadd hz dL_law_491 ?_
      obtain ⟨g73, h⟩ := ck_inv h
      refine v_sload hz hX dL_law_492 g73 ?_
      obtain ⟨ck74, h⟩ := ck_inv h
      obtain ⟨ka74, kb74⟩ := isK_of ck74
      obtain ⟨x75, M75, e75, h⟩ := bd_inv h
      refine v_callV hz (As := [.int (xs (l3 + (1 : Int32)).toNatClampNeg)]) vl_L_54 (tX11_told (r + 77) e75) rfl (by decide) ka74 kb74 rfl rfl rfl (Nat.le_of_ble_eq_true rfl) ⟨by omega, by omega⟩ dL_law_493 ?_
      show V z 496 [some (.retAddr 30), some (.ref l1), some (.ref l2), some (.int l3)] [.int x75] M75 (nc + 0) (ns + 0)
      refine v_aload_n hz rfl rfl dL_law_496 ?_
      refine v_xload_n hz rfl rfl dL_law_497 ?_
      refine v_iload_n hz rfl rfl dL_law_498 ?_
      refine v_iconst hz (v := (1 : Int32)) (by decide) dL_law_499 ?_
      refine v_iadd hz dL_law_500 ?_
      obtain ⟨g76, h⟩ := ck_inv h
      refine v_sload hz hX dL_law_501 g76 ?_
      obtain ⟨ck77, h⟩ := ck_inv h
      obtain ⟨ka77, kb77⟩ := isK_of ck77
      obtain ⟨x78, M78, e78, h⟩ := bd_inv h
      refine v_callV hz (As := [.int (xs (l3 + (1 : Int32)).toNatClampNeg)]) vl_L_57 (tX12_told (r + 76) e78) rfl (by decide) ka77 kb77 rfl rfl rfl (Nat.le_of_ble_eq_true rfl) ⟨by omega, by omega⟩ dL_law_502 ?_
      show V z 505 [some (.retAddr 30), some (.ref l1), some (.ref l2), some (.int l3)] [.int x78, .int x75] M78 (nc + 0) (ns + 0)
      refine v_icmp_eq (tgt := 1315) hz dL_law_505 (by decide) (fun hc => ?_) (fun hc => ?_)
      · replace h := (if_pos hc).symm.trans h
        exact v_weak (lvle_s (lvle_s (lvle_s (lvle_s lvle_0)))) (wL_law_1315 hz hX hR (by omega) (by omega) (fun h => hK18 h (by omega) (by omega)) h)
      · replace h := (if_neg hc).symm.trans h
        refine v_iconst hz (v := (0 : Int32)) (by decide) dL_law_508 ?_
        cases h
    replace h := (if_neg hs2_9).symm.trans h
    by_cases hs2_10 : ((xs l3.toNatClampNeg) &&& (63 : Int32)) = (10 : Int32)
    · replace h := (if_pos hs2_10).symm.trans h
      refine v_tableAt (tgt := 510) hz hs2_10 dL_law_33 (by decide) (by decide) (by decide) (by decide) ?_
      refine v_aload_n hz rfl rfl dL_law_510 ?_
      refine v_xload_n hz rfl rfl dL_law_511 ?_
      refine v_iload_n hz rfl rfl dL_law_512 ?_
      refine v_iconst hz (v := (1 : Int32)) (by decide) dL_law_513 ?_
      refine v_iadd hz dL_law_514 ?_
      obtain ⟨g79, h⟩ := ck_inv h
      refine v_sload hz hX dL_law_515 g79 ?_
      obtain ⟨ck80, h⟩ := ck_inv h
      obtain ⟨ka80, kb80⟩ := isK_of ck80
      obtain ⟨x81, M81, e81, h⟩ := bd_inv h
      refine v_callV hz (As := [.int (xs (l3 + (1 : Int32)).toNatClampNeg)]) vl_L_58 (tX11_pass (r + 73) e81) rfl (by decide) ka80 kb80 rfl rfl rfl (Nat.le_of_ble_eq_true rfl) ⟨by omega, by omega⟩ dL_law_516 ?_
      show V z 519 [some (.retAddr 30), some (.ref l1), some (.ref l2), some (.int l3)] [.int x81] M81 (nc + 0) (ns + 0)
      refine v_aload_n hz rfl rfl dL_law_519 ?_
      refine v_xload_n hz rfl rfl dL_law_520 ?_
      refine v_iload_n hz rfl rfl dL_law_521 ?_
      refine v_iconst hz (v := (1 : Int32)) (by decide) dL_law_522 ?_
      refine v_iadd hz dL_law_523 ?_
      obtain ⟨g82, h⟩ := ck_inv h
      refine v_sload hz hX dL_law_524 g82 ?_
      obtain ⟨ck83, h⟩ := ck_inv h
      obtain ⟨ka83, kb83⟩ := isK_of ck83
      obtain ⟨x84, M84, e84, h⟩ := bd_inv h
      refine v_callV hz (As := [.int (xs (l3 + (1 : Int32)).toNatClampNeg)]) vl_L_61 (tX12_pass (r + 73) e84) rfl (by decide) ka83 kb83 rfl rfl rfl (Nat.le_of_ble_eq_true rfl) ⟨by omega, by omega⟩ dL_law_525 ?_
      show V z 528 [some (.retAddr 30), some (.ref l1), some (.ref l2), some (.int l3)] [.int x84, .int x81] M84 (nc + 0) (ns + 0)
      refine v_icmp_eq (tgt := 1315) hz dL_law_528 (by decide) (fun hc => ?_) (fun hc => ?_)
      · replace h := (if_pos hc).symm.trans h
        exact v_weak (lvle_s (lvle_s (lvle_s (lvle_s lvle_0)))) (wL_law_1315 hz hX hR (by omega) (by omega) (fun h => hK18 h (by omega) (by omega)) h)
      · replace h := (if_neg hc).symm.trans h
        refine v_iconst hz (v := (0 : Int32)) (by decide) dL_law_531 ?_
        cases h
    replace h := (if_neg hs2_10).symm.trans h
    by_cases hs2_11 : ((xs l3.toNatClampNeg) &&& (63 : Int32)) = (11 : Int32)
    · replace h := (if_pos hs2_11).symm.trans h
      refine v_tableAt (tgt := 533) hz hs2_11 dL_law_33 (by decide) (by decide) (by decide) (by decide) ?_
      refine v_aload_n hz rfl rfl dL_law_533 ?_
      refine v_xload_n hz rfl rfl dL_law_534 ?_
      refine v_iload_n hz rfl rfl dL_law_535 ?_
      refine v_iconst hz (v := (1 : Int32)) (by decide) dL_law_536 ?_
      refine v_iadd hz dL_law_537 ?_
      obtain ⟨g85, h⟩ := ck_inv h
      refine v_sload hz hX dL_law_538 g85 ?_
      refine v_xload_n hz rfl rfl dL_law_539 ?_
      refine v_iload_n hz rfl rfl dL_law_540 ?_
      refine v_iconst hz (v := (2 : Int32)) (by decide) dL_law_541 ?_
      refine v_iadd hz dL_law_542 ?_
      obtain ⟨g86, h⟩ := ck_inv h
      refine v_sload hz hX dL_law_543 g86 ?_
      obtain ⟨ck87, h⟩ := ck_inv h
      obtain ⟨ka87, kb87⟩ := isK_of ck87
      obtain ⟨x88, M88, e88, h⟩ := bd_inv h
      refine v_callV hz (As := [.int (xs (l3 + (1 : Int32)).toNatClampNeg), .int (xs (l3 + (2 : Int32)).toNatClampNeg)]) vl_L_62 (tX11_on (r + 73) e88) rfl (by decide) ka87 kb87 rfl rfl rfl (Nat.le_of_ble_eq_true rfl) ⟨by omega, by omega⟩ dL_law_544 ?_
      show V z 547 [some (.retAddr 30), some (.ref l1), some (.ref l2), some (.int l3)] [.int x88] M88 (nc + 0) (ns + 0)
      refine v_aload_n hz rfl rfl dL_law_547 ?_
      refine v_xload_n hz rfl rfl dL_law_548 ?_
      refine v_iload_n hz rfl rfl dL_law_549 ?_
      refine v_iconst hz (v := (1 : Int32)) (by decide) dL_law_550 ?_
      refine v_iadd hz dL_law_551 ?_
      obtain ⟨g89, h⟩ := ck_inv h
      refine v_sload hz hX dL_law_552 g89 ?_
      refine v_xload_n hz rfl rfl dL_law_553 ?_
      refine v_iload_n hz rfl rfl dL_law_554 ?_
      refine v_iconst hz (v := (2 : Int32)) (by decide) dL_law_555 ?_
      refine v_iadd hz dL_law_556 ?_
      obtain ⟨g90, h⟩ := ck_inv h
      refine v_sload hz hX dL_law_557 g90 ?_
      obtain ⟨ck91, h⟩ := ck_inv h
      obtain ⟨ka91, kb91⟩ := isK_of ck91
      obtain ⟨x92, M92, e92, h⟩ := bd_inv h
      refine v_callV hz (As := [.int (xs (l3 + (1 : Int32)).toNatClampNeg), .int (xs (l3 + (2 : Int32)).toNatClampNeg)]) vl_L_65 (tX12_on (r + 73) e92) rfl (by decide) ka91 kb91 rfl rfl rfl (Nat.le_of_ble_eq_true rfl) ⟨by omega, by omega⟩ dL_law_558 ?_
      show V z 561 [some (.retAddr 30), some (.ref l1), some (.ref l2), some (.int l3)] [.int x92, .int x88] M92 (nc + 0) (ns + 0)
      refine v_icmp_eq (tgt := 1315) hz dL_law_561 (by decide) (fun hc => ?_) (fun hc => ?_)
      · replace h := (if_pos hc).symm.trans h
        exact v_weak (lvle_s (lvle_s (lvle_s (lvle_s lvle_0)))) (wL_law_1315 hz hX hR (by omega) (by omega) (fun h => hK18 h (by omega) (by omega)) h)
      · replace h := (if_neg hc).symm.trans h
        refine v_iconst hz (v := (0 : Int32)) (by decide) dL_law_564 ?_
        cases h
    replace h := (if_neg hs2_11).symm.trans h
    by_cases hs2_12 : ((xs l3.toNatClampNeg) &&& (63 : Int32)) = (12 : Int32)
    · replace h := (if_pos hs2_12).symm.trans h
      refine v_tableAt (tgt := 566) hz hs2_12 dL_law_33 (by decide) (by decide) (by decide) (by decide) ?_
      refine v_aload_n hz rfl rfl dL_law_566 ?_
      refine v_xload_n hz rfl rfl dL_law_567 ?_
      refine v_iload_n hz rfl rfl dL_law_568 ?_
      refine v_iconst hz (v := (1 : Int32)) (by decide) dL_law_569 ?_
      refine v_iadd hz dL_law_570 ?_
      obtain ⟨g93, h⟩ := ck_inv h
      refine v_sload hz hX dL_law_571 g93 ?_
      refine v_xload_n hz rfl rfl dL_law_572 ?_
      refine v_iload_n hz rfl rfl dL_law_573 ?_
      refine v_iconst hz (v := (2 : Int32)) (by decide) dL_law_574 ?_
      refine v_iadd hz dL_law_575 ?_
      obtain ⟨g94, h⟩ := ck_inv h
      refine v_sload hz hX dL_law_576 g94 ?_
      refine v_xload_n hz rfl rfl dL_law_577 ?_
      refine v_iload_n hz rfl rfl dL_law_578 ?_
      refine v_iconst hz (v := (3 : Int32)) (by decide) dL_law_579 ?_
      refine v_iadd hz dL_law_580 ?_
      obtain ⟨g95, h⟩ := ck_inv h
      refine v_sload hz hX dL_law_581 g95 ?_
      obtain ⟨ck96, h⟩ := ck_inv h
      obtain ⟨ka96, kb96⟩ := isK_of ck96
      obtain ⟨x97, M97, e97, h⟩ := bd_inv h
      refine v_callV hz (As := [.int (xs (l3 + (1 : Int32)).toNatClampNeg), .int (xs (l3 + (2 : Int32)).toNatClampNeg), .int (xs (l3 + (3 : Int32)).toNatClampNeg)]) vl_L_66 (tX11_way (r + 72) e97) rfl (by decide) ka96 kb96 rfl rfl rfl (Nat.le_of_ble_eq_true rfl) ⟨by omega, by omega⟩ dL_law_582 ?_
      show V z 585 [some (.retAddr 30), some (.ref l1), some (.ref l2), some (.int l3)] [.int x97] M97 (nc + 0) (ns + 0)
      refine v_aload_n hz rfl rfl dL_law_585 ?_
      refine v_xload_n hz rfl rfl dL_law_586 ?_
      refine v_iload_n hz rfl rfl dL_law_587 ?_
      refine v_iconst hz (v := (1 : Int32)) (by decide) dL_law_588 ?_
      refine v_iadd hz dL_law_589 ?_
      obtain ⟨g98, h⟩ := ck_inv h
      refine v_sload hz hX dL_law_590 g98 ?_
      refine v_xload_n hz rfl rfl dL_law_591 ?_
      refine v_iload_n hz rfl rfl dL_law_592 ?_
      refine v_iconst hz (v := (2 : Int32)) (by decide) dL_law_593 ?_
      refine v_iadd hz dL_law_594 ?_
      obtain ⟨g99, h⟩ := ck_inv h
      refine v_sload hz hX dL_law_595 g99 ?_
      refine v_xload_n hz rfl rfl dL_law_596 ?_
      refine v_iload_n hz rfl rfl dL_law_597 ?_
      refine v_iconst hz (v := (3 : Int32)) (by decide) dL_law_598 ?_
      refine v_iadd hz dL_law_599 ?_
      obtain ⟨g100, h⟩ := ck_inv h
      refine v_sload hz hX dL_law_600 g100 ?_
      obtain ⟨ck101, h⟩ := ck_inv h
      obtain ⟨ka101, kb101⟩ := isK_of ck101
      obtain ⟨x102, M102, e102, h⟩ := bd_inv h
      refine v_callV hz (As := [.int (xs (l3 + (1 : Int32)).toNatClampNeg), .int (xs (l3 + (2 : Int32)).toNatClampNeg), .int (xs (l3 + (3 : Int32)).toNatClampNeg)]) vl_L_69 (tX12_way (r + 71) e102) rfl (by decide) ka101 kb101 rfl rfl rfl (Nat.le_of_ble_eq_true rfl) ⟨by omega, by omega⟩ dL_law_601 ?_
      show V z 604 [some (.retAddr 30), some (.ref l1), some (.ref l2), some (.int l3)] [.int x102, .int x97] M102 (nc + 0) (ns + 0)
      refine v_icmp_eq (tgt := 1315) hz dL_law_604 (by decide) (fun hc => ?_) (fun hc => ?_)
      · replace h := (if_pos hc).symm.trans h
        exact v_weak (lvle_s (lvle_s (lvle_s (lvle_s lvle_0)))) (wL_law_1315 hz hX hR (by omega) (by omega) (fun h => hK18 h (by omega) (by omega)) h)
      · replace h := (if_neg hc).symm.trans h
        refine v_iconst hz (v := (0 : Int32)) (by decide) dL_law_607 ?_
        cases h
    replace h := (if_neg hs2_12).symm.trans h
    by_cases hs2_13 : ((xs l3.toNatClampNeg) &&& (63 : Int32)) = (13 : Int32)
    · replace h := (if_pos hs2_13).symm.trans h
      refine v_tableAt (tgt := 609) hz hs2_13 dL_law_33 (by decide) (by decide) (by decide) (by decide) ?_
      refine v_aload_n hz rfl rfl dL_law_609 ?_
      refine v_xload_n hz rfl rfl dL_law_610 ?_
      refine v_iload_n hz rfl rfl dL_law_611 ?_
      refine v_iconst hz (v := (1 : Int32)) (by decide) dL_law_612 ?_
      refine v_iadd hz dL_law_613 ?_
      obtain ⟨g103, h⟩ := ck_inv h
      refine v_sload hz hX dL_law_614 g103 ?_
      refine v_xload_n hz rfl rfl dL_law_615 ?_
      refine v_iload_n hz rfl rfl dL_law_616 ?_
      refine v_iconst hz (v := (2 : Int32)) (by decide) dL_law_617 ?_
      refine v_iadd hz dL_law_618 ?_
      obtain ⟨g104, h⟩ := ck_inv h
      refine v_sload hz hX dL_law_619 g104 ?_
      obtain ⟨ck105, h⟩ := ck_inv h
      obtain ⟨ka105, kb105⟩ := isK_of ck105
      obtain ⟨x106, M106, e106, h⟩ := bd_inv h
      refine v_callV hz (As := [.int (xs (l3 + (1 : Int32)).toNatClampNeg), .int (xs (l3 + (2 : Int32)).toNatClampNeg)]) vl_L_70 (tX11_night (r + 75) e106) rfl (by decide) ka105 kb105 rfl rfl rfl (Nat.le_of_ble_eq_true rfl) ⟨by omega, by omega⟩ dL_law_620 ?_
      show V z 623 [some (.retAddr 30), some (.ref l1), some (.ref l2), some (.int l3)] [.int x106] M106 (nc + 0) (ns + 0)
      refine v_aload_n hz rfl rfl dL_law_623 ?_
      refine v_xload_n hz rfl rfl dL_law_624 ?_
      refine v_iload_n hz rfl rfl dL_law_625 ?_
      refine v_iconst hz (v := (1 : Int32)) (by decide) dL_law_626 ?_
      refine v_iadd hz dL_law_627 ?_
      obtain ⟨g107, h⟩ := ck_inv h
      refine v_sload hz hX dL_law_628 g107 ?_
      refine v_xload_n hz rfl rfl dL_law_629 ?_
      refine v_iload_n hz rfl rfl dL_law_630 ?_
      refine v_iconst hz (v := (2 : Int32)) (by decide) dL_law_631 ?_
      refine v_iadd hz dL_law_632 ?_
      obtain ⟨g108, h⟩ := ck_inv h
      refine v_sload hz hX dL_law_633 g108 ?_
      obtain ⟨ck109, h⟩ := ck_inv h
      obtain ⟨ka109, kb109⟩ := isK_of ck109
      obtain ⟨x110, M110, e110, h⟩ := bd_inv h
      refine v_callV hz (As := [.int (xs (l3 + (1 : Int32)).toNatClampNeg), .int (xs (l3 + (2 : Int32)).toNatClampNeg)]) vl_L_73 (tX12_night (r + 74) e110) rfl (by decide) ka109 kb109 rfl rfl rfl (Nat.le_of_ble_eq_true rfl) ⟨by omega, by omega⟩ dL_law_634 ?_
      show V z 637 [some (.retAddr 30), some (.ref l1), some (.ref l2), some (.int l3)] [.int x110, .int x106] M110 (nc + 0) (ns + 0)
      refine v_icmp_eq (tgt := 1315) hz dL_law_637 (by decide) (fun hc => ?_) (fun hc => ?_)
      · replace h := (if_pos hc).symm.trans h
        exact v_weak (lvle_s (lvle_s (lvle_s (lvle_s lvle_0)))) (wL_law_1315 hz hX hR (by omega) (by omega) (fun h => hK18 h (by omega) (by omega)) h)
      · replace h := (if_neg hc).symm.trans h
        refine v_iconst hz (v := (0 : Int32)) (by decide) dL_law_640 ?_
        cases h
    replace h := (if_neg hs2_13).symm.trans h
    by_cases hs2_14 : ((xs l3.toNatClampNeg) &&& (63 : Int32)) = (14 : Int32)
    · replace h := (if_pos hs2_14).symm.trans h
      refine v_tableAt (tgt := 642) hz hs2_14 dL_law_33 (by decide) (by decide) (by decide) (by decide) ?_
      refine v_aload_n hz rfl rfl dL_law_642 ?_
      refine v_xload_n hz rfl rfl dL_law_643 ?_
      refine v_iload_n hz rfl rfl dL_law_644 ?_
      refine v_iconst hz (v := (1 : Int32)) (by decide) dL_law_645 ?_
      refine v_iadd hz dL_law_646 ?_
      obtain ⟨g111, h⟩ := ck_inv h
      refine v_sload hz hX dL_law_647 g111 ?_
      refine v_xload_n hz rfl rfl dL_law_648 ?_
      refine v_iload_n hz rfl rfl dL_law_649 ?_
      refine v_iconst hz (v := (2 : Int32)) (by decide) dL_law_650 ?_
      refine v_iadd hz dL_law_651 ?_
      obtain ⟨g112, h⟩ := ck_inv h
      refine v_sload hz hX dL_law_652 g112 ?_
      refine v_xload_n hz rfl rfl dL_law_653 ?_
      refine v_iload_n hz rfl rfl dL_law_654 ?_
      refine v_iconst hz (v := (3 : Int32)) (by decide) dL_law_655 ?_
      refine v_iadd hz dL_law_656 ?_
      obtain ⟨g113, h⟩ := ck_inv h
      refine v_sload hz hX dL_law_657 g113 ?_
      obtain ⟨ck114, h⟩ := ck_inv h
      obtain ⟨ka114, kb114⟩ := isK_of ck114
      obtain ⟨x115, M115, e115, h⟩ := bd_inv h
      refine v_callV hz (As := [.int (xs (l3 + (1 : Int32)).toNatClampNeg), .int (xs (l3 + (2 : Int32)).toNatClampNeg), .int (xs (l3 + (3 : Int32)).toNatClampNeg)]) vl_L_74 (tX11_see (r + 78) e115) rfl (by decide) ka114 kb114 rfl rfl rfl (Nat.le_of_ble_eq_true rfl) ⟨by omega, by omega⟩ dL_law_658 ?_
      show V z 661 [some (.retAddr 30), some (.ref l1), some (.ref l2), some (.int l3)] [.int x115] M115 (nc + 0) (ns + 0)
      refine v_aload_n hz rfl rfl dL_law_661 ?_
      refine v_xload_n hz rfl rfl dL_law_662 ?_
      refine v_iload_n hz rfl rfl dL_law_663 ?_
      refine v_iconst hz (v := (1 : Int32)) (by decide) dL_law_664 ?_
      refine v_iadd hz dL_law_665 ?_
      obtain ⟨g116, h⟩ := ck_inv h
      refine v_sload hz hX dL_law_666 g116 ?_
      refine v_xload_n hz rfl rfl dL_law_667 ?_
      refine v_iload_n hz rfl rfl dL_law_668 ?_
      refine v_iconst hz (v := (2 : Int32)) (by decide) dL_law_669 ?_
      refine v_iadd hz dL_law_670 ?_
      obtain ⟨g117, h⟩ := ck_inv h
      refine v_sload hz hX dL_law_671 g117 ?_
      refine v_xload_n hz rfl rfl dL_law_672 ?_
      refine v_iload_n hz rfl rfl dL_law_673 ?_
      refine v_iconst hz (v := (3 : Int32)) (by decide) dL_law_674 ?_
      refine v_iadd hz dL_law_675 ?_
      obtain ⟨g118, h⟩ := ck_inv h
      refine v_sload hz hX dL_law_676 g118 ?_
      obtain ⟨ck119, h⟩ := ck_inv h
      obtain ⟨ka119, kb119⟩ := isK_of ck119
      obtain ⟨x120, M120, e120, h⟩ := bd_inv h
      refine v_callV hz (As := [.int (xs (l3 + (1 : Int32)).toNatClampNeg), .int (xs (l3 + (2 : Int32)).toNatClampNeg), .int (xs (l3 + (3 : Int32)).toNatClampNeg)]) vl_L_77 (tX12_see (r + 77) e120) rfl (by decide) ka119 kb119 rfl rfl rfl (Nat.le_of_ble_eq_true rfl) ⟨by omega, by omega⟩ dL_law_677 ?_
      show V z 680 [some (.retAddr 30), some (.ref l1), some (.ref l2), some (.int l3)] [.int x120, .int x115] M120 (nc + 0) (ns + 0)
      refine v_icmp_eq (tgt := 1315) hz dL_law_680 (by decide) (fun hc => ?_) (fun hc => ?_)
      · replace h := (if_pos hc).symm.trans h
        exact v_weak (lvle_s (lvle_s (lvle_s (lvle_s lvle_0)))) (wL_law_1315 hz hX hR (by omega) (by omega) (fun h => hK18 h (by omega) (by omega)) h)
      · replace h := (if_neg hc).symm.trans h
        refine v_iconst hz (v := (0 : Int32)) (by decide) dL_law_683 ?_
        cases h
    replace h := (if_neg hs2_14).symm.trans h
    by_cases hs2_15 : ((xs l3.toNatClampNeg) &&& (63 : Int32)) = (15 : Int32)
    · replace h := (if_pos hs2_15).symm.trans h
      refine v_tableAt (tgt := 685) hz hs2_15 dL_law_33 (by decide) (by decide) (by decide) (by decide) ?_
      refine v_aload_n hz rfl rfl dL_law_685 ?_
      refine v_xload_n hz rfl rfl dL_law_686 ?_
      refine v_iload_n hz rfl rfl dL_law_687 ?_
      refine v_iconst hz (v := (1 : Int32)) (by decide) dL_law_688 ?_
      refine v_iadd hz dL_law_689 ?_
      obtain ⟨g121, h⟩ := ck_inv h
      refine v_sload hz hX dL_law_690 g121 ?_
      obtain ⟨ck122, h⟩ := ck_inv h
      obtain ⟨ka122, kb122⟩ := isK_of ck122
      obtain ⟨x123, M123, e123, h⟩ := bd_inv h
      refine v_callV hz (As := [.int (xs (l3 + (1 : Int32)).toNatClampNeg)]) vl_L_78 (tX11_from (r + 73) e123) rfl (by decide) ka122 kb122 rfl rfl rfl (Nat.le_of_ble_eq_true rfl) ⟨by omega, by omega⟩ dL_law_691 ?_
      show V z 694 [some (.retAddr 30), some (.ref l1), some (.ref l2), some (.int l3)] [.int x123] M123 (nc + 0) (ns + 0)
      refine v_aload_n hz rfl rfl dL_law_694 ?_
      refine v_xload_n hz rfl rfl dL_law_695 ?_
      refine v_iload_n hz rfl rfl dL_law_696 ?_
      refine v_iconst hz (v := (1 : Int32)) (by decide) dL_law_697 ?_
      refine v_iadd hz dL_law_698 ?_
      obtain ⟨g124, h⟩ := ck_inv h
      refine v_sload hz hX dL_law_699 g124 ?_
      obtain ⟨ck125, h⟩ := ck_inv h
      obtain ⟨ka125, kb125⟩ := isK_of ck125
      obtain ⟨x126, M126, e126, h⟩ := bd_inv h
      refine v_callV hz (As := [.int (xs (l3 + (1 : Int32)).toNatClampNeg)]) vl_L_81 (tX12_from (r + 72) e126) rfl (by decide) ka125 kb125 rfl rfl rfl (Nat.le_of_ble_eq_true rfl) ⟨by omega, by omega⟩ dL_law_700 ?_
      show V z 703 [some (.retAddr 30), some (.ref l1), some (.ref l2), some (.int l3)] [.int x126, .int x123] M126 (nc + 0) (ns + 0)
      refine v_icmp_eq (tgt := 1315) hz dL_law_703 (by decide) (fun hc => ?_) (fun hc => ?_)
      · replace h := (if_pos hc).symm.trans h
        exact v_weak (lvle_s (lvle_s (lvle_s (lvle_s lvle_0)))) (wL_law_1315 hz hX hR (by omega) (by omega) (fun h => hK18 h (by omega) (by omega)) h)
      · replace h := (if_neg hc).symm.trans h
        refine v_iconst hz (v := (0 : Int32)) (by decide) dL_law_706 ?_
        cases h
    replace h := (if_neg hs2_15).symm.trans h
    by_cases hs2_16 : ((xs l3.toNatClampNeg) &&& (63 : Int32)) = (16 : Int32)
    · replace h := (if_pos hs2_16).symm.trans h
      refine v_tableAt (tgt := 708) hz hs2_16 dL_law_33 (by decide) (by decide) (by decide) (by decide) ?_
      refine v_aload_n hz rfl rfl dL_law_708 ?_
      refine v_xload_n hz rfl rfl dL_law_709 ?_
      refine v_iload_n hz rfl rfl dL_law_710 ?_
      refine v_iconst hz (v := (1 : Int32)) (by decide) dL_law_711 ?_
      refine v_iadd hz dL_law_712 ?_
      obtain ⟨g127, h⟩ := ck_inv h
      refine v_sload hz hX dL_law_713 g127 ?_
      refine v_xload_n hz rfl rfl dL_law_714 ?_
      refine v_iload_n hz rfl rfl dL_law_715 ?_
      refine v_iconst hz (v := (2 : Int32)) (by decide) dL_law_716 ?_
      refine v_iadd hz dL_law_717 ?_
      obtain ⟨g128, h⟩ := ck_inv h
      refine v_sload hz hX dL_law_718 g128 ?_
      obtain ⟨ck129, h⟩ := ck_inv h
      obtain ⟨ka129, kb129⟩ := isK_of ck129
      obtain ⟨x130, M130, e130, h⟩ := bd_inv h
      refine v_callV hz (As := [.int (xs (l3 + (1 : Int32)).toNatClampNeg), .int (xs (l3 + (2 : Int32)).toNatClampNeg)]) vl_L_82 (tX11_can (r + 73) e130) rfl (by decide) ka129 kb129 rfl rfl rfl (Nat.le_of_ble_eq_true rfl) ⟨by omega, by omega⟩ dL_law_719 ?_
      show V z 722 [some (.retAddr 30), some (.ref l1), some (.ref l2), some (.int l3)] [.int x130] M130 (nc + 0) (ns + 0)
      refine v_aload_n hz rfl rfl dL_law_722 ?_
      refine v_xload_n hz rfl rfl dL_law_723 ?_
      refine v_iload_n hz rfl rfl dL_law_724 ?_
      refine v_iconst hz (v := (1 : Int32)) (by decide) dL_law_725 ?_
      refine v_iadd hz dL_law_726 ?_
      obtain ⟨g131, h⟩ := ck_inv h
      refine v_sload hz hX dL_law_727 g131 ?_
      refine v_xload_n hz rfl rfl dL_law_728 ?_
      refine v_iload_n hz rfl rfl dL_law_729 ?_
      refine v_iconst hz (v := (2 : Int32)) (by decide) dL_law_730 ?_
      refine v_iadd hz dL_law_731 ?_
      obtain ⟨g132, h⟩ := ck_inv h
      refine v_sload hz hX dL_law_732 g132 ?_
      obtain ⟨ck133, h⟩ := ck_inv h
      obtain ⟨ka133, kb133⟩ := isK_of ck133
      obtain ⟨x134, M134, e134, h⟩ := bd_inv h
      refine v_callV hz (As := [.int (xs (l3 + (1 : Int32)).toNatClampNeg), .int (xs (l3 + (2 : Int32)).toNatClampNeg)]) vl_L_85 (tX12_can (r + 72) e134) rfl (by decide) ka133 kb133 rfl rfl rfl (Nat.le_of_ble_eq_true rfl) ⟨by omega, by omega⟩ dL_law_733 ?_
      show V z 736 [some (.retAddr 30), some (.ref l1), some (.ref l2), some (.int l3)] [.int x134, .int x130] M134 (nc + 0) (ns + 0)
      refine v_icmp_eq (tgt := 1315) hz dL_law_736 (by decide) (fun hc => ?_) (fun hc => ?_)
      · replace h := (if_pos hc).symm.trans h
        exact v_weak (lvle_s (lvle_s (lvle_s (lvle_s lvle_0)))) (wL_law_1315 hz hX hR (by omega) (by omega) (fun h => hK18 h (by omega) (by omega)) h)
      · replace h := (if_neg hc).symm.trans h
        refine v_iconst hz (v := (0 : Int32)) (by decide) dL_law_739 ?_
        cases h
    replace h := (if_neg hs2_16).symm.trans h
    by_cases hs2_17 : ((xs l3.toNatClampNeg) &&& (63 : Int32)) = (17 : Int32)
    · replace h := (if_pos hs2_17).symm.trans h
      refine v_tableAt (tgt := 741) hz hs2_17 dL_law_33 (by decide) (by decide) (by decide) (by decide) ?_
      refine v_aload_n hz rfl rfl dL_law_741 ?_
      refine v_xload_n hz rfl rfl dL_law_742 ?_
      refine v_iload_n hz rfl rfl dL_law_743 ?_
      refine v_iconst hz (v := (1 : Int32)) (by decide) dL_law_744 ?_
      refine v_iadd hz dL_law_745 ?_
      obtain ⟨g135, h⟩ := ck_inv h
      refine v_sload hz hX dL_law_746 g135 ?_
      refine v_xload_n hz rfl rfl dL_law_747 ?_
      refine v_iload_n hz rfl rfl dL_law_748 ?_
      refine v_iconst hz (v := (2 : Int32)) (by decide) dL_law_749 ?_
      refine v_iadd hz dL_law_750 ?_
      obtain ⟨g136, h⟩ := ck_inv h
      refine v_sload hz hX dL_law_751 g136 ?_
      refine v_xload_n hz rfl rfl dL_law_752 ?_
      refine v_iload_n hz rfl rfl dL_law_753 ?_
      refine v_iconst hz (v := (3 : Int32)) (by decide) dL_law_754 ?_
      refine v_iadd hz dL_law_755 ?_
      obtain ⟨g137, h⟩ := ck_inv h
      refine v_sload hz hX dL_law_756 g137 ?_
      obtain ⟨ck138, h⟩ := ck_inv h
      obtain ⟨ka138, kb138⟩ := isK_of ck138
      obtain ⟨x139, M139, e139, h⟩ := bd_inv h
      refine v_callV hz (As := [.int (xs (l3 + (1 : Int32)).toNatClampNeg), .int (xs (l3 + (2 : Int32)).toNatClampNeg), .int (xs (l3 + (3 : Int32)).toNatClampNeg)]) vl_L_86 (tX11_odds (r + 75) e139) rfl (by decide) ka138 kb138 rfl rfl rfl (Nat.le_of_ble_eq_true rfl) ⟨by omega, by omega⟩ dL_law_757 ?_
      show V z 760 [some (.retAddr 30), some (.ref l1), some (.ref l2), some (.int l3)] [.long x139] M139 (nc + 0) (ns + 0)
      refine v_aload_n hz rfl rfl dL_law_760 ?_
      refine v_xload_n hz rfl rfl dL_law_761 ?_
      refine v_iload_n hz rfl rfl dL_law_762 ?_
      refine v_iconst hz (v := (1 : Int32)) (by decide) dL_law_763 ?_
      refine v_iadd hz dL_law_764 ?_
      obtain ⟨g140, h⟩ := ck_inv h
      refine v_sload hz hX dL_law_765 g140 ?_
      refine v_xload_n hz rfl rfl dL_law_766 ?_
      refine v_iload_n hz rfl rfl dL_law_767 ?_
      refine v_iconst hz (v := (2 : Int32)) (by decide) dL_law_768 ?_
      refine v_iadd hz dL_law_769 ?_
      obtain ⟨g141, h⟩ := ck_inv h
      refine v_sload hz hX dL_law_770 g141 ?_
      refine v_xload_n hz rfl rfl dL_law_771 ?_
      refine v_iload_n hz rfl rfl dL_law_772 ?_
      refine v_iconst hz (v := (3 : Int32)) (by decide) dL_law_773 ?_
      refine v_iadd hz dL_law_774 ?_
      obtain ⟨g142, h⟩ := ck_inv h
      refine v_sload hz hX dL_law_775 g142 ?_
      obtain ⟨ck143, h⟩ := ck_inv h
      obtain ⟨ka143, kb143⟩ := isK_of ck143
      obtain ⟨x144, M144, e144, h⟩ := bd_inv h
      refine v_callV hz (As := [.int (xs (l3 + (1 : Int32)).toNatClampNeg), .int (xs (l3 + (2 : Int32)).toNatClampNeg), .int (xs (l3 + (3 : Int32)).toNatClampNeg)]) vl_L_90 (tX12_odds (r + 74) e144) rfl (by decide) ka143 kb143 rfl rfl rfl (Nat.le_of_ble_eq_true rfl) ⟨by omega, by omega⟩ dL_law_776 ?_
      show V z 779 [some (.retAddr 30), some (.ref l1), some (.ref l2), some (.int l3)] [.long x144, .long x139] M144 (nc + 0) (ns + 0)
      refine v_lcmp hz dL_law_779 ?_
      refine v_if_eq (tgt := 1315) hz dL_law_780 (by decide) (fun hc => ?_) (fun hc => ?_)
      · replace h := (if_pos hc).symm.trans h
        exact v_weak (lvle_s (lvle_s (lvle_s (lvle_s lvle_0)))) (wL_law_1315 hz hX hR (by omega) (by omega) (fun h => hK18 h (by omega) (by omega)) h)
      · replace h := (if_neg hc).symm.trans h
        refine v_iconst hz (v := (0 : Int32)) (by decide) dL_law_783 ?_
        cases h
    replace h := (if_neg hs2_17).symm.trans h
    by_cases hs2_18 : ((xs l3.toNatClampNeg) &&& (63 : Int32)) = (18 : Int32)
    · replace h := (if_pos hs2_18).symm.trans h
      refine v_tableAt (tgt := 785) hz hs2_18 dL_law_33 (by decide) (by decide) (by decide) (by decide) ?_
      refine v_aload_n hz rfl rfl dL_law_785 ?_
      refine v_xload_n hz rfl rfl dL_law_786 ?_
      refine v_iload_n hz rfl rfl dL_law_787 ?_
      refine v_iconst hz (v := (1 : Int32)) (by decide) dL_law_788 ?_
      refine v_iadd hz dL_law_789 ?_
      obtain ⟨g145, h⟩ := ck_inv h
      refine v_sload hz hX dL_law_790 g145 ?_
      refine v_xload_n hz rfl rfl dL_law_791 ?_
      refine v_iload_n hz rfl rfl dL_law_792 ?_
      refine v_iconst hz (v := (2 : Int32)) (by decide) dL_law_793 ?_
      refine v_iadd hz dL_law_794 ?_
      obtain ⟨g146, h⟩ := ck_inv h
      refine v_sload hz hX dL_law_795 g146 ?_
      obtain ⟨ck147, h⟩ := ck_inv h
      obtain ⟨ka147, kb147⟩ := isK_of ck147
      obtain ⟨x148, M148, e148, h⟩ := bd_inv h
      refine v_callV hz (As := [.int (xs (l3 + (1 : Int32)).toNatClampNeg), .int (xs (l3 + (2 : Int32)).toNatClampNeg)]) vl_L_91 (tX11_mean (r + 73) e148) rfl (by decide) ka147 kb147 rfl rfl rfl (Nat.le_of_ble_eq_true rfl) ⟨by omega, by omega⟩ dL_law_796 ?_
      show V z 799 [some (.retAddr 30), some (.ref l1), some (.ref l2), some (.int l3)] [.long x148] M148 (nc + 0) (ns + 0)
      refine v_aload_n hz rfl rfl dL_law_799 ?_
      refine v_xload_n hz rfl rfl dL_law_800 ?_
      refine v_iload_n hz rfl rfl dL_law_801 ?_
      refine v_iconst hz (v := (1 : Int32)) (by decide) dL_law_802 ?_
      refine v_iadd hz dL_law_803 ?_
      obtain ⟨g149, h⟩ := ck_inv h
      refine v_sload hz hX dL_law_804 g149 ?_
      refine v_xload_n hz rfl rfl dL_law_805 ?_
      refine v_iload_n hz rfl rfl dL_law_806 ?_
      refine v_iconst hz (v := (2 : Int32)) (by decide) dL_law_807 ?_
      refine v_iadd hz dL_law_808 ?_
      obtain ⟨g150, h⟩ := ck_inv h
      refine v_sload hz hX dL_law_809 g150 ?_
      obtain ⟨ck151, h⟩ := ck_inv h
      obtain ⟨ka151, kb151⟩ := isK_of ck151
      obtain ⟨x152, M152, e152, h⟩ := bd_inv h
      refine v_callV hz (As := [.int (xs (l3 + (1 : Int32)).toNatClampNeg), .int (xs (l3 + (2 : Int32)).toNatClampNeg)]) vl_L_95 (tX12_mean (r + 73) e152) rfl (by decide) ka151 kb151 rfl rfl rfl (Nat.le_of_ble_eq_true rfl) ⟨by omega, by omega⟩ dL_law_810 ?_
      show V z 813 [some (.retAddr 30), some (.ref l1), some (.ref l2), some (.int l3)] [.long x152, .long x148] M152 (nc + 0) (ns + 0)
      refine v_lcmp hz dL_law_813 ?_
      refine v_if_eq (tgt := 1315) hz dL_law_814 (by decide) (fun hc => ?_) (fun hc => ?_)
      · replace h := (if_pos hc).symm.trans h
        exact v_weak (lvle_s (lvle_s (lvle_s (lvle_s lvle_0)))) (wL_law_1315 hz hX hR (by omega) (by omega) (fun h => hK18 h (by omega) (by omega)) h)
      · replace h := (if_neg hc).symm.trans h
        refine v_iconst hz (v := (0 : Int32)) (by decide) dL_law_817 ?_
        cases h
    replace h := (if_neg hs2_18).symm.trans h
    by_cases hs2_19 : ((xs l3.toNatClampNeg) &&& (63 : Int32)) = (19 : Int32)
    · replace h := (if_pos hs2_19).symm.trans h
      refine v_tableAt (tgt := 819) hz hs2_19 dL_law_33 (by decide) (by decide) (by decide) (by decide) ?_
      refine v_aload_n hz rfl rfl dL_law_819 ?_
      refine v_xload_n hz rfl rfl dL_law_820 ?_
      refine v_iload_n hz rfl rfl dL_law_821 ?_
      refine v_iconst hz (v := (1 : Int32)) (by decide) dL_law_822 ?_
      refine v_iadd hz dL_law_823 ?_
      obtain ⟨g153, h⟩ := ck_inv h
      refine v_sload hz hX dL_law_824 g153 ?_
      refine v_xload_n hz rfl rfl dL_law_825 ?_
      refine v_iload_n hz rfl rfl dL_law_826 ?_
      refine v_iconst hz (v := (2 : Int32)) (by decide) dL_law_827 ?_
      refine v_iadd hz dL_law_828 ?_
      obtain ⟨g154, h⟩ := ck_inv h
      refine v_sload hz hX dL_law_829 g154 ?_
      obtain ⟨ck155, h⟩ := ck_inv h
      obtain ⟨ka155, kb155⟩ := isK_of ck155
      obtain ⟨x156, M156, e156, h⟩ := bd_inv h
      refine v_callV hz (As := [.int (xs (l3 + (1 : Int32)).toNatClampNeg), .int (xs (l3 + (2 : Int32)).toNatClampNeg)]) vl_L_96 (tX11_plan (r + 78) e156) rfl (by decide) ka155 kb155 rfl rfl rfl (Nat.le_of_ble_eq_true rfl) ⟨by omega, by omega⟩ dL_law_830 ?_
      show V z 833 [some (.retAddr 30), some (.ref l1), some (.ref l2), some (.int l3)] [.int x156] M156 (nc + 0) (ns + 0)
      refine v_aload_n hz rfl rfl dL_law_833 ?_
      refine v_xload_n hz rfl rfl dL_law_834 ?_
      refine v_iload_n hz rfl rfl dL_law_835 ?_
      refine v_iconst hz (v := (1 : Int32)) (by decide) dL_law_836 ?_
      refine v_iadd hz dL_law_837 ?_
      obtain ⟨g157, h⟩ := ck_inv h
      refine v_sload hz hX dL_law_838 g157 ?_
      refine v_xload_n hz rfl rfl dL_law_839 ?_
      refine v_iload_n hz rfl rfl dL_law_840 ?_
      refine v_iconst hz (v := (2 : Int32)) (by decide) dL_law_841 ?_
      refine v_iadd hz dL_law_842 ?_
      obtain ⟨g158, h⟩ := ck_inv h
      refine v_sload hz hX dL_law_843 g158 ?_
      obtain ⟨ck159, h⟩ := ck_inv h
      obtain ⟨ka159, kb159⟩ := isK_of ck159
      obtain ⟨x160, M160, e160, h⟩ := bd_inv h
      refine v_callV hz (As := [.int (xs (l3 + (1 : Int32)).toNatClampNeg), .int (xs (l3 + (2 : Int32)).toNatClampNeg)]) vl_L_99 (tX12_plan (r + 77) e160) rfl (by decide) ka159 kb159 rfl rfl rfl (Nat.le_of_ble_eq_true rfl) ⟨by omega, by omega⟩ dL_law_844 ?_
      show V z 847 [some (.retAddr 30), some (.ref l1), some (.ref l2), some (.int l3)] [.int x160, .int x156] M160 (nc + 0) (ns + 0)
      refine v_icmp_eq (tgt := 1315) hz dL_law_847 (by decide) (fun hc => ?_) (fun hc => ?_)
      · replace h := (if_pos hc).symm.trans h
        exact v_weak (lvle_s (lvle_s (lvle_s (lvle_s lvle_0)))) (wL_law_1315 hz hX hR (by omega) (by omega) (fun h => hK18 h (by omega) (by omega)) h)
      · replace h := (if_neg hc).symm.trans h
        refine v_iconst hz (v := (0 : Int32)) (by decide) dL_law_850 ?_
        cases h
    replace h := (if_neg hs2_19).symm.trans h
    by_cases hs2_20 : ((xs l3.toNatClampNeg) &&& (63 : Int32)) = (20 : Int32)
    · replace h := (if_pos hs2_20).symm.trans h
      refine v_tableAt (tgt := 852) hz hs2_20 dL_law_33 (by decide) (by decide) (by decide) (by decide) ?_
      refine v_aload_n hz rfl rfl dL_law_852 ?_
      refine v_xload_n hz rfl rfl dL_law_853 ?_
      refine v_iload_n hz rfl rfl dL_law_854 ?_
      refine v_iconst hz (v := (1 : Int32)) (by decide) dL_law_855 ?_
      refine v_iadd hz dL_law_856 ?_
      obtain ⟨g161, h⟩ := ck_inv h
      refine v_sload hz hX dL_law_857 g161 ?_
      obtain ⟨ck162, h⟩ := ck_inv h
      obtain ⟨ka162, kb162⟩ := isK_of ck162
      obtain ⟨x163, M163, e163, h⟩ := bd_inv h
      refine v_callV hz (As := [.int (xs (l3 + (1 : Int32)).toNatClampNeg)]) vl_L_100 (tX11_ends (r + 73) e163) rfl (by decide) ka162 kb162 rfl rfl rfl (Nat.le_of_ble_eq_true rfl) ⟨by omega, by omega⟩ dL_law_858 ?_
      show V z 861 [some (.retAddr 30), some (.ref l1), some (.ref l2), some (.int l3)] [.int x163] M163 (nc + 0) (ns + 0)
      refine v_aload_n hz rfl rfl dL_law_861 ?_
      refine v_xload_n hz rfl rfl dL_law_862 ?_
      refine v_iload_n hz rfl rfl dL_law_863 ?_
      refine v_iconst hz (v := (1 : Int32)) (by decide) dL_law_864 ?_
      refine v_iadd hz dL_law_865 ?_
      obtain ⟨g164, h⟩ := ck_inv h
      refine v_sload hz hX dL_law_866 g164 ?_
      obtain ⟨ck165, h⟩ := ck_inv h
      obtain ⟨ka165, kb165⟩ := isK_of ck165
      obtain ⟨x166, M166, e166, h⟩ := bd_inv h
      refine v_callV hz (As := [.int (xs (l3 + (1 : Int32)).toNatClampNeg)]) vl_L_103 (tX12_ends (r + 73) e166) rfl (by decide) ka165 kb165 rfl rfl rfl (Nat.le_of_ble_eq_true rfl) ⟨by omega, by omega⟩ dL_law_867 ?_
      show V z 870 [some (.retAddr 30), some (.ref l1), some (.ref l2), some (.int l3)] [.int x166, .int x163] M166 (nc + 0) (ns + 0)
      refine v_icmp_eq (tgt := 1315) hz dL_law_870 (by decide) (fun hc => ?_) (fun hc => ?_)
      · replace h := (if_pos hc).symm.trans h
        exact v_weak (lvle_s (lvle_s (lvle_s (lvle_s lvle_0)))) (wL_law_1315 hz hX hR (by omega) (by omega) (fun h => hK18 h (by omega) (by omega)) h)
      · replace h := (if_neg hc).symm.trans h
        refine v_iconst hz (v := (0 : Int32)) (by decide) dL_law_873 ?_
        cases h
    replace h := (if_neg hs2_20).symm.trans h
    by_cases hs2_21 : ((xs l3.toNatClampNeg) &&& (63 : Int32)) = (21 : Int32)
    · replace h := (if_pos hs2_21).symm.trans h
      refine v_tableAt (tgt := 875) hz hs2_21 dL_law_33 (by decide) (by decide) (by decide) (by decide) ?_
      refine v_aload_n hz rfl rfl dL_law_875 ?_
      refine v_xload_n hz rfl rfl dL_law_876 ?_
      refine v_iload_n hz rfl rfl dL_law_877 ?_
      refine v_iconst hz (v := (1 : Int32)) (by decide) dL_law_878 ?_
      refine v_iadd hz dL_law_879 ?_
      obtain ⟨g167, h⟩ := ck_inv h
      refine v_sload hz hX dL_law_880 g167 ?_
      refine v_xload_n hz rfl rfl dL_law_881 ?_
      refine v_iload_n hz rfl rfl dL_law_882 ?_
      refine v_iconst hz (v := (2 : Int32)) (by decide) dL_law_883 ?_
      refine v_iadd hz dL_law_884 ?_
      obtain ⟨g168, h⟩ := ck_inv h
      refine v_sload hz hX dL_law_885 g168 ?_
      obtain ⟨ck169, h⟩ := ck_inv h
      obtain ⟨ka169, kb169⟩ := isK_of ck169
      obtain ⟨x170, M170, e170, h⟩ := bd_inv h
      refine v_callV hz (As := [.int (xs (l3 + (1 : Int32)).toNatClampNeg), .int (xs (l3 + (2 : Int32)).toNatClampNeg)]) vl_L_104 (tX11_book (r + 78) e170) rfl (by decide) ka169 kb169 rfl rfl rfl (Nat.le_of_ble_eq_true rfl) ⟨by omega, by omega⟩ dL_law_886 ?_
      show V z 889 [some (.retAddr 30), some (.ref l1), some (.ref l2), some (.int l3)] [.int x170] M170 (nc + 0) (ns + 0)
      refine v_aload_n hz rfl rfl dL_law_889 ?_
      refine v_xload_n hz rfl rfl dL_law_890 ?_
      refine v_iload_n hz rfl rfl dL_law_891 ?_
      refine v_iconst hz (v := (1 : Int32)) (by decide) dL_law_892 ?_
      refine v_iadd hz dL_law_893 ?_
      obtain ⟨g171, h⟩ := ck_inv h
      refine v_sload hz hX dL_law_894 g171 ?_
      refine v_xload_n hz rfl rfl dL_law_895 ?_
      refine v_iload_n hz rfl rfl dL_law_896 ?_
      refine v_iconst hz (v := (2 : Int32)) (by decide) dL_law_897 ?_
      refine v_iadd hz dL_law_898 ?_
      obtain ⟨g172, h⟩ := ck_inv h
      refine v_sload hz hX dL_law_899 g172 ?_
      obtain ⟨ck173, h⟩ := ck_inv h
      obtain ⟨ka173, kb173⟩ := isK_of ck173
      obtain ⟨x174, M174, e174, h⟩ := bd_inv h
      refine v_callV hz (As := [.int (xs (l3 + (1 : Int32)).toNatClampNeg), .int (xs (l3 + (2 : Int32)).toNatClampNeg)]) vl_L_107 (tX12_book (r + 77) e174) rfl (by decide) ka173 kb173 rfl rfl rfl (Nat.le_of_ble_eq_true rfl) ⟨by omega, by omega⟩ dL_law_900 ?_
      show V z 903 [some (.retAddr 30), some (.ref l1), some (.ref l2), some (.int l3)] [.int x174, .int x170] M174 (nc + 0) (ns + 0)
      refine v_icmp_eq (tgt := 1315) hz dL_law_903 (by decide) (fun hc => ?_) (fun hc => ?_)
      · replace h := (if_pos hc).symm.trans h
        exact v_weak (lvle_s (lvle_s (lvle_s (lvle_s lvle_0)))) (wL_law_1315 hz hX hR (by omega) (by omega) (fun h => hK18 h (by omega) (by omega)) h)
      · replace h := (if_neg hc).symm.trans h
        refine v_iconst hz (v := (0 : Int32)) (by decide) dL_law_906 ?_
        cases h
    replace h := (if_neg hs2_21).symm.trans h
    by_cases hs2_22 : ((xs l3.toNatClampNeg) &&& (63 : Int32)) = (22 : Int32)
    · replace h := (if_pos hs2_22).symm.trans h
      refine v_tableAt (tgt := 908) hz hs2_22 dL_law_33 (by decide) (by decide) (by decide) (by decide) ?_
      refine v_aload_n hz rfl rfl dL_law_908 ?_
      obtain ⟨ck175, h⟩ := ck_inv h
      obtain ⟨ka175, kb175⟩ := isK_of ck175
      obtain ⟨x176, M176, e176, h⟩ := bd_inv h
      refine v_callV hz (As := []) vl_L_108 (tX11_looked (r + 78) e176) rfl (by decide) ka175 kb175 rfl rfl rfl (Nat.le_of_ble_eq_true rfl) ⟨by omega, by omega⟩ dL_law_909 ?_
      show V z 912 [some (.retAddr 30), some (.ref l1), some (.ref l2), some (.int l3)] [.int x176] M176 (nc + 0) (ns + 0)
      refine v_aload_n hz rfl rfl dL_law_912 ?_
      obtain ⟨ck177, h⟩ := ck_inv h
      obtain ⟨ka177, kb177⟩ := isK_of ck177
      obtain ⟨x178, M178, e178, h⟩ := bd_inv h
      refine v_callV hz (As := []) vl_L_111 (tX12_looked (r + 79) e178) rfl (by decide) ka177 kb177 rfl rfl rfl (Nat.le_of_ble_eq_true rfl) ⟨by omega, by omega⟩ dL_law_913 ?_
      show V z 916 [some (.retAddr 30), some (.ref l1), some (.ref l2), some (.int l3)] [.int x178, .int x176] M178 (nc + 0) (ns + 0)
      refine v_icmp_eq (tgt := 1315) hz dL_law_916 (by decide) (fun hc => ?_) (fun hc => ?_)
      · replace h := (if_pos hc).symm.trans h
        exact v_weak (lvle_s (lvle_s (lvle_s (lvle_s lvle_0)))) (wL_law_1315 hz hX hR (by omega) (by omega) (fun h => hK18 h (by omega) (by omega)) h)
      · replace h := (if_neg hc).symm.trans h
        refine v_iconst hz (v := (0 : Int32)) (by decide) dL_law_919 ?_
        cases h
    replace h := (if_neg hs2_22).symm.trans h
    by_cases hs2_23 : ((xs l3.toNatClampNeg) &&& (63 : Int32)) = (23 : Int32)
    · replace h := (if_pos hs2_23).symm.trans h
      refine v_tableAt (tgt := 921) hz hs2_23 dL_law_33 (by decide) (by decide) (by decide) (by decide) ?_
      refine v_aload_n hz rfl rfl dL_law_921 ?_
      refine v_xload_n hz rfl rfl dL_law_922 ?_
      refine v_iload_n hz rfl rfl dL_law_923 ?_
      refine v_iconst hz (v := (1 : Int32)) (by decide) dL_law_924 ?_
      refine v_iadd hz dL_law_925 ?_
      obtain ⟨g179, h⟩ := ck_inv h
      refine v_sload hz hX dL_law_926 g179 ?_
      refine v_xload_n hz rfl rfl dL_law_927 ?_
      refine v_iload_n hz rfl rfl dL_law_928 ?_
      refine v_iconst hz (v := (2 : Int32)) (by decide) dL_law_929 ?_
      refine v_iadd hz dL_law_930 ?_
      obtain ⟨g180, h⟩ := ck_inv h
      refine v_sload hz hX dL_law_931 g180 ?_
      obtain ⟨ck181, h⟩ := ck_inv h
      obtain ⟨ka181, kb181⟩ := isK_of ck181
      obtain ⟨x182, M182, e182, h⟩ := bd_inv h
      refine v_callV hz (As := [.int (xs (l3 + (1 : Int32)).toNatClampNeg), .int (xs (l3 + (2 : Int32)).toNatClampNeg)]) vl_L_112 (tX11_judge (r + 78) e182) rfl (by decide) ka181 kb181 rfl rfl rfl (Nat.le_of_ble_eq_true rfl) ⟨by omega, by omega⟩ dL_law_932 ?_
      show V z 935 [some (.retAddr 30), some (.ref l1), some (.ref l2), some (.int l3)] [.int x182] M182 (nc + 0) (ns + 0)
      refine v_aload_n hz rfl rfl dL_law_935 ?_
      refine v_xload_n hz rfl rfl dL_law_936 ?_
      refine v_iload_n hz rfl rfl dL_law_937 ?_
      refine v_iconst hz (v := (1 : Int32)) (by decide) dL_law_938 ?_
      refine v_iadd hz dL_law_939 ?_
      obtain ⟨g183, h⟩ := ck_inv h
      refine v_sload hz hX dL_law_940 g183 ?_
      refine v_xload_n hz rfl rfl dL_law_941 ?_
      refine v_iload_n hz rfl rfl dL_law_942 ?_
      refine v_iconst hz (v := (2 : Int32)) (by decide) dL_law_943 ?_
      refine v_iadd hz dL_law_944 ?_
      obtain ⟨g184, h⟩ := ck_inv h
      refine v_sload hz hX dL_law_945 g184 ?_
      obtain ⟨ck185, h⟩ := ck_inv h
      obtain ⟨ka185, kb185⟩ := isK_of ck185
      obtain ⟨x186, M186, e186, h⟩ := bd_inv h
      refine v_callV hz (As := [.int (xs (l3 + (1 : Int32)).toNatClampNeg), .int (xs (l3 + (2 : Int32)).toNatClampNeg)]) vl_L_115 (tX12_judge (r + 78) e186) rfl (by decide) ka185 kb185 rfl rfl rfl (Nat.le_of_ble_eq_true rfl) ⟨by omega, by omega⟩ dL_law_946 ?_
      show V z 949 [some (.retAddr 30), some (.ref l1), some (.ref l2), some (.int l3)] [.int x186, .int x182] M186 (nc + 0) (ns + 0)
      refine v_icmp_eq (tgt := 1315) hz dL_law_949 (by decide) (fun hc => ?_) (fun hc => ?_)
      · replace h := (if_pos hc).symm.trans h
        exact v_weak (lvle_s (lvle_s (lvle_s (lvle_s lvle_0)))) (wL_law_1315 hz hX hR (by omega) (by omega) (fun h => hK18 h (by omega) (by omega)) h)
      · replace h := (if_neg hc).symm.trans h
        refine v_iconst hz (v := (0 : Int32)) (by decide) dL_law_952 ?_
        cases h
    replace h := (if_neg hs2_23).symm.trans h
    by_cases hs2_24 : ((xs l3.toNatClampNeg) &&& (63 : Int32)) = (24 : Int32)
    · replace h := (if_pos hs2_24).symm.trans h
      refine v_tableAt (tgt := 954) hz hs2_24 dL_law_33 (by decide) (by decide) (by decide) (by decide) ?_
      refine v_aload_n hz rfl rfl dL_law_954 ?_
      obtain ⟨ck187, h⟩ := ck_inv h
      obtain ⟨ka187, kb187⟩ := isK_of ck187
      obtain ⟨x188, M188, e188, h⟩ := bd_inv h
      refine v_callV hz (As := []) vl_L_116 (tX11_image (r + 77) e188) rfl (by decide) ka187 kb187 rfl rfl rfl (Nat.le_of_ble_eq_true rfl) ⟨by omega, by omega⟩ dL_law_955 ?_
      show V z 958 [some (.retAddr 30), some (.ref l1), some (.ref l2), some (.int l3)] [.int x188] M188 (nc + 0) (ns + 0)
      refine v_aload_n hz rfl rfl dL_law_958 ?_
      obtain ⟨ck189, h⟩ := ck_inv h
      obtain ⟨ka189, kb189⟩ := isK_of ck189
      obtain ⟨x190, M190, e190, h⟩ := bd_inv h
      refine v_callV hz (As := []) vl_L_119 (tX12_image (r + 78) e190) rfl (by decide) ka189 kb189 rfl rfl rfl (Nat.le_of_ble_eq_true rfl) ⟨by omega, by omega⟩ dL_law_959 ?_
      show V z 962 [some (.retAddr 30), some (.ref l1), some (.ref l2), some (.int l3)] [.int x190, .int x188] M190 (nc + 0) (ns + 0)
      refine v_icmp_eq (tgt := 1315) hz dL_law_962 (by decide) (fun hc => ?_) (fun hc => ?_)
      · replace h := (if_pos hc).symm.trans h
        exact v_weak (lvle_s (lvle_s (lvle_s (lvle_s lvle_0)))) (wL_law_1315 hz hX hR (by omega) (by omega) (fun h => hK18 h (by omega) (by omega)) h)
      · replace h := (if_neg hc).symm.trans h
        refine v_iconst hz (v := (0 : Int32)) (by decide) dL_law_965 ?_
        cases h
    replace h := (if_neg hs2_24).symm.trans h
    by_cases hs2_25 : ((xs l3.toNatClampNeg) &&& (63 : Int32)) = (25 : Int32)
    · replace h := (if_pos hs2_25).symm.trans h
      refine v_tableAt (tgt := 967) hz hs2_25 dL_law_33 (by decide) (by decide) (by decide) (by decide) ?_
      refine v_aload_n hz rfl rfl dL_law_967 ?_
      obtain ⟨ck191, h⟩ := ck_inv h
      obtain ⟨ka191, kb191⟩ := isK_of ck191
      obtain ⟨x192, M192, e192, h⟩ := bd_inv h
      refine v_callV hz (As := []) vl_L_120 (tX11_undo (r + 77) e192) rfl (by decide) ka191 kb191 rfl rfl rfl (Nat.le_of_ble_eq_true rfl) ⟨by omega, by omega⟩ dL_law_968 ?_
      show V z 971 [some (.retAddr 30), some (.ref l1), some (.ref l2), some (.int l3)] [.int x192] M192 (nc + 0) (ns + 0)
      refine v_aload_n hz rfl rfl dL_law_971 ?_
      obtain ⟨ck193, h⟩ := ck_inv h
      obtain ⟨ka193, kb193⟩ := isK_of ck193
      obtain ⟨x194, M194, e194, h⟩ := bd_inv h
      refine v_callV hz (As := []) vl_L_123 (tX12_undo (r + 78) e194) rfl (by decide) ka193 kb193 rfl rfl rfl (Nat.le_of_ble_eq_true rfl) ⟨by omega, by omega⟩ dL_law_972 ?_
      show V z 975 [some (.retAddr 30), some (.ref l1), some (.ref l2), some (.int l3)] [.int x194, .int x192] M194 (nc + 0) (ns + 0)
      refine v_icmp_eq (tgt := 1315) hz dL_law_975 (by decide) (fun hc => ?_) (fun hc => ?_)
      · replace h := (if_pos hc).symm.trans h
        exact v_weak (lvle_s (lvle_s (lvle_s (lvle_s lvle_0)))) (wL_law_1315 hz hX hR (by omega) (by omega) (fun h => hK18 h (by omega) (by omega)) h)
      · replace h := (if_neg hc).symm.trans h
        refine v_iconst hz (v := (0 : Int32)) (by decide) dL_law_978 ?_
        cases h
    replace h := (if_neg hs2_25).symm.trans h
    by_cases hs2_26 : ((xs l3.toNatClampNeg) &&& (63 : Int32)) = (26 : Int32)
    · replace h := (if_pos hs2_26).symm.trans h
      refine v_tableAt (tgt := 980) hz hs2_26 dL_law_33 (by decide) (by decide) (by decide) (by decide) ?_
      refine v_aload_n hz rfl rfl dL_law_980 ?_
      refine v_xload_n hz rfl rfl dL_law_981 ?_
      refine v_iload_n hz rfl rfl dL_law_982 ?_
      refine v_iconst hz (v := (1 : Int32)) (by decide) dL_law_983 ?_
      refine v_iadd hz dL_law_984 ?_
      obtain ⟨g195, h⟩ := ck_inv h
      refine v_sload hz hX dL_law_985 g195 ?_
      refine v_xload_n hz rfl rfl dL_law_986 ?_
      refine v_iload_n hz rfl rfl dL_law_987 ?_
      refine v_iconst hz (v := (2 : Int32)) (by decide) dL_law_988 ?_
      refine v_iadd hz dL_law_989 ?_
      obtain ⟨g196, h⟩ := ck_inv h
      refine v_sload hz hX dL_law_990 g196 ?_
      refine v_xload_n hz rfl rfl dL_law_991 ?_
      refine v_iload_n hz rfl rfl dL_law_992 ?_
      refine v_iconst hz (v := (3 : Int32)) (by decide) dL_law_993 ?_
      refine v_iadd hz dL_law_994 ?_
      obtain ⟨g197, h⟩ := ck_inv h
      refine v_sload hz hX dL_law_995 g197 ?_
      obtain ⟨ck198, h⟩ := ck_inv h
      obtain ⟨ka198, kb198⟩ := isK_of ck198
      obtain ⟨x199, M199, e199, h⟩ := bd_inv h
      refine v_callV hz (As := [.int (xs (l3 + (1 : Int32)).toNatClampNeg), .int (xs (l3 + (2 : Int32)).toNatClampNeg), .int (xs (l3 + (3 : Int32)).toNatClampNeg)]) vl_L_124 (tX11_act (r + 71) e199) rfl (by decide) ka198 kb198 rfl rfl rfl (Nat.le_of_ble_eq_true rfl) ⟨by omega, by omega⟩ dL_law_996 ?_
      show V z 999 [some (.retAddr 30), some (.ref l1), some (.ref l2), some (.int l3)] [.int x199] M199 (nc + 0) (ns + 0)
      refine v_aload_n hz rfl rfl dL_law_999 ?_
      refine v_xload_n hz rfl rfl dL_law_1000 ?_
      refine v_iload_n hz rfl rfl dL_law_1001 ?_
      refine v_iconst hz (v := (1 : Int32)) (by decide) dL_law_1002 ?_
      refine v_iadd hz dL_law_1003 ?_
      obtain ⟨g200, h⟩ := ck_inv h
      refine v_sload hz hX dL_law_1004 g200 ?_
      refine v_xload_n hz rfl rfl dL_law_1005 ?_
      refine v_iload_n hz rfl rfl dL_law_1006 ?_
      refine v_iconst hz (v := (2 : Int32)) (by decide) dL_law_1007 ?_
      refine v_iadd hz dL_law_1008 ?_
      obtain ⟨g201, h⟩ := ck_inv h
      refine v_sload hz hX dL_law_1009 g201 ?_
      refine v_xload_n hz rfl rfl dL_law_1010 ?_
      refine v_iload_n hz rfl rfl dL_law_1011 ?_
      refine v_iconst hz (v := (3 : Int32)) (by decide) dL_law_1012 ?_
      refine v_iadd hz dL_law_1013 ?_
      obtain ⟨g202, h⟩ := ck_inv h
      refine v_sload hz hX dL_law_1014 g202 ?_
      obtain ⟨ck203, h⟩ := ck_inv h
      obtain ⟨ka203, kb203⟩ := isK_of ck203
      obtain ⟨x204, M204, e204, h⟩ := bd_inv h
      refine v_callV hz (As := [.int (xs (l3 + (1 : Int32)).toNatClampNeg), .int (xs (l3 + (2 : Int32)).toNatClampNeg), .int (xs (l3 + (3 : Int32)).toNatClampNeg)]) vl_L_127 (tX12_act (r + 6) e204) rfl (by decide) ka203 kb203 rfl rfl rfl (Nat.le_of_ble_eq_true rfl) ⟨by omega, by omega⟩ dL_law_1015 ?_
      show V z 1018 [some (.retAddr 30), some (.ref l1), some (.ref l2), some (.int l3)] [.int x204, .int x199] M204 (nc + 0) (ns + 0)
      refine v_icmp_eq (tgt := 1315) hz dL_law_1018 (by decide) (fun hc => ?_) (fun hc => ?_)
      · replace h := (if_pos hc).symm.trans h
        exact v_weak (lvle_s (lvle_s (lvle_s (lvle_s lvle_0)))) (wL_law_1315 hz hX hR (by omega) (by omega) (fun h => hK18 h (by omega) (by omega)) h)
      · replace h := (if_neg hc).symm.trans h
        refine v_iconst hz (v := (0 : Int32)) (by decide) dL_law_1021 ?_
        cases h
    replace h := (if_neg hs2_26).symm.trans h
    by_cases hs2_27 : ((xs l3.toNatClampNeg) &&& (63 : Int32)) = (27 : Int32)
    · replace h := (if_pos hs2_27).symm.trans h
      refine v_tableAt (tgt := 1023) hz hs2_27 dL_law_33 (by decide) (by decide) (by decide) (by decide) ?_
      refine v_aload_n hz rfl rfl dL_law_1023 ?_
      refine v_xload_n hz rfl rfl dL_law_1024 ?_
      refine v_iload_n hz rfl rfl dL_law_1025 ?_
      refine v_iconst hz (v := (1 : Int32)) (by decide) dL_law_1026 ?_
      refine v_iadd hz dL_law_1027 ?_
      obtain ⟨g205, h⟩ := ck_inv h
      refine v_sload hz hX dL_law_1028 g205 ?_
      obtain ⟨ck206, h⟩ := ck_inv h
      obtain ⟨ka206, kb206⟩ := isK_of ck206
      obtain ⟨x207, M207, e207, h⟩ := bd_inv h
      refine v_callV hz (As := [.int (xs (l3 + (1 : Int32)).toNatClampNeg)]) vl_L_128 (tX11_trace (r + 79) e207) rfl (by decide) ka206 kb206 rfl rfl rfl (Nat.le_of_ble_eq_true rfl) ⟨by omega, by omega⟩ dL_law_1029 ?_
      show V z 1032 [some (.retAddr 30), some (.ref l1), some (.ref l2), some (.int l3)] [.int x207] M207 (nc + 0) (ns + 0)
      refine v_aload_n hz rfl rfl dL_law_1032 ?_
      refine v_xload_n hz rfl rfl dL_law_1033 ?_
      refine v_iload_n hz rfl rfl dL_law_1034 ?_
      refine v_iconst hz (v := (1 : Int32)) (by decide) dL_law_1035 ?_
      refine v_iadd hz dL_law_1036 ?_
      obtain ⟨g208, h⟩ := ck_inv h
      refine v_sload hz hX dL_law_1037 g208 ?_
      obtain ⟨ck209, h⟩ := ck_inv h
      obtain ⟨ka209, kb209⟩ := isK_of ck209
      obtain ⟨x210, M210, e210, h⟩ := bd_inv h
      refine v_callV hz (As := [.int (xs (l3 + (1 : Int32)).toNatClampNeg)]) vl_L_131 (tX12_trace (r + 78) e210) rfl (by decide) ka209 kb209 rfl rfl rfl (Nat.le_of_ble_eq_true rfl) ⟨by omega, by omega⟩ dL_law_1038 ?_
      show V z 1041 [some (.retAddr 30), some (.ref l1), some (.ref l2), some (.int l3)] [.int x210, .int x207] M210 (nc + 0) (ns + 0)
      refine v_icmp_eq (tgt := 1315) hz dL_law_1041 (by decide) (fun hc => ?_) (fun hc => ?_)
      · replace h := (if_pos hc).symm.trans h
        exact v_weak (lvle_s (lvle_s (lvle_s (lvle_s lvle_0)))) (wL_law_1315 hz hX hR (by omega) (by omega) (fun h => hK18 h (by omega) (by omega)) h)
      · replace h := (if_neg hc).symm.trans h
        refine v_iconst hz (v := (0 : Int32)) (by decide) dL_law_1044 ?_
        cases h
    replace h := (if_neg hs2_27).symm.trans h
    by_cases hs2_28 : ((xs l3.toNatClampNeg) &&& (63 : Int32)) = (28 : Int32)
    · replace h := (if_pos hs2_28).symm.trans h
      refine v_tableAt (tgt := 1046) hz hs2_28 dL_law_33 (by decide) (by decide) (by decide) (by decide) ?_
      refine v_aload_n hz rfl rfl dL_law_1046 ?_
      refine v_xload_n hz rfl rfl dL_law_1047 ?_
      refine v_iload_n hz rfl rfl dL_law_1048 ?_
      refine v_iconst hz (v := (1 : Int32)) (by decide) dL_law_1049 ?_
      refine v_iadd hz dL_law_1050 ?_
      obtain ⟨g211, h⟩ := ck_inv h
      refine v_sload hz hX dL_law_1051 g211 ?_
      refine v_xload_n hz rfl rfl dL_law_1052 ?_
      refine v_iload_n hz rfl rfl dL_law_1053 ?_
      refine v_iconst hz (v := (2 : Int32)) (by decide) dL_law_1054 ?_
      refine v_iadd hz dL_law_1055 ?_
      obtain ⟨g212, h⟩ := ck_inv h
      refine v_sload hz hX dL_law_1056 g212 ?_
      obtain ⟨ck213, h⟩ := ck_inv h
      obtain ⟨ka213, kb213⟩ := isK_of ck213
      obtain ⟨x214, M214, e214, h⟩ := bd_inv h
      refine v_callV hz (As := [.int (xs (l3 + (1 : Int32)).toNatClampNeg), .int (xs (l3 + (2 : Int32)).toNatClampNeg)]) vl_L_132 (tX11_taken (r + 78) e214) rfl (by decide) ka213 kb213 rfl rfl rfl (Nat.le_of_ble_eq_true rfl) ⟨by omega, by omega⟩ dL_law_1057 ?_
      show V z 1060 [some (.retAddr 30), some (.ref l1), some (.ref l2), some (.int l3)] [.int x214] M214 (nc + 0) (ns + 0)
      refine v_aload_n hz rfl rfl dL_law_1060 ?_
      refine v_xload_n hz rfl rfl dL_law_1061 ?_
      refine v_iload_n hz rfl rfl dL_law_1062 ?_
      refine v_iconst hz (v := (1 : Int32)) (by decide) dL_law_1063 ?_
      refine v_iadd hz dL_law_1064 ?_
      obtain ⟨g215, h⟩ := ck_inv h
      refine v_sload hz hX dL_law_1065 g215 ?_
      refine v_xload_n hz rfl rfl dL_law_1066 ?_
      refine v_iload_n hz rfl rfl dL_law_1067 ?_
      refine v_iconst hz (v := (2 : Int32)) (by decide) dL_law_1068 ?_
      refine v_iadd hz dL_law_1069 ?_
      obtain ⟨g216, h⟩ := ck_inv h
      refine v_sload hz hX dL_law_1070 g216 ?_
      obtain ⟨ck217, h⟩ := ck_inv h
      obtain ⟨ka217, kb217⟩ := isK_of ck217
      obtain ⟨x218, M218, e218, h⟩ := bd_inv h
      refine v_callV hz (As := [.int (xs (l3 + (1 : Int32)).toNatClampNeg), .int (xs (l3 + (2 : Int32)).toNatClampNeg)]) vl_L_135 (tX12_taken (r + 77) e218) rfl (by decide) ka217 kb217 rfl rfl rfl (Nat.le_of_ble_eq_true rfl) ⟨by omega, by omega⟩ dL_law_1071 ?_
      show V z 1074 [some (.retAddr 30), some (.ref l1), some (.ref l2), some (.int l3)] [.int x218, .int x214] M218 (nc + 0) (ns + 0)
      refine v_icmp_eq (tgt := 1315) hz dL_law_1074 (by decide) (fun hc => ?_) (fun hc => ?_)
      · replace h := (if_pos hc).symm.trans h
        exact v_weak (lvle_s (lvle_s (lvle_s (lvle_s lvle_0)))) (wL_law_1315 hz hX hR (by omega) (by omega) (fun h => hK18 h (by omega) (by omega)) h)
      · replace h := (if_neg hc).symm.trans h
        refine v_iconst hz (v := (0 : Int32)) (by decide) dL_law_1077 ?_
        cases h
    replace h := (if_neg hs2_28).symm.trans h
    by_cases hs2_29 : ((xs l3.toNatClampNeg) &&& (63 : Int32)) = (29 : Int32)
    · replace h := (if_pos hs2_29).symm.trans h
      refine v_tableAt (tgt := 1079) hz hs2_29 dL_law_33 (by decide) (by decide) (by decide) (by decide) ?_
      refine v_aload_n hz rfl rfl dL_law_1079 ?_
      refine v_xload_n hz rfl rfl dL_law_1080 ?_
      refine v_iload_n hz rfl rfl dL_law_1081 ?_
      refine v_iconst hz (v := (1 : Int32)) (by decide) dL_law_1082 ?_
      refine v_iadd hz dL_law_1083 ?_
      obtain ⟨g219, h⟩ := ck_inv h
      refine v_sload hz hX dL_law_1084 g219 ?_
      obtain ⟨ck220, h⟩ := ck_inv h
      obtain ⟨ka220, kb220⟩ := isK_of ck220
      obtain ⟨x221, M221, e221, h⟩ := bd_inv h
      refine v_callV hz (As := [.int (xs (l3 + (1 : Int32)).toNatClampNeg)]) vl_L_136 (tX11_count (r + 79) e221) rfl (by decide) ka220 kb220 rfl rfl rfl (Nat.le_of_ble_eq_true rfl) ⟨by omega, by omega⟩ dL_law_1085 ?_
      show V z 1088 [some (.retAddr 30), some (.ref l1), some (.ref l2), some (.int l3)] [.int x221] M221 (nc + 0) (ns + 0)
      refine v_aload_n hz rfl rfl dL_law_1088 ?_
      refine v_xload_n hz rfl rfl dL_law_1089 ?_
      refine v_iload_n hz rfl rfl dL_law_1090 ?_
      refine v_iconst hz (v := (1 : Int32)) (by decide) dL_law_1091 ?_
      refine v_iadd hz dL_law_1092 ?_
      obtain ⟨g222, h⟩ := ck_inv h
      refine v_sload hz hX dL_law_1093 g222 ?_
      obtain ⟨ck223, h⟩ := ck_inv h
      obtain ⟨ka223, kb223⟩ := isK_of ck223
      obtain ⟨x224, M224, e224, h⟩ := bd_inv h
      refine v_callV hz (As := [.int (xs (l3 + (1 : Int32)).toNatClampNeg)]) vl_L_139 (tX12_count (r + 79) e224) rfl (by decide) ka223 kb223 rfl rfl rfl (Nat.le_of_ble_eq_true rfl) ⟨by omega, by omega⟩ dL_law_1094 ?_
      show V z 1097 [some (.retAddr 30), some (.ref l1), some (.ref l2), some (.int l3)] [.int x224, .int x221] M224 (nc + 0) (ns + 0)
      refine v_icmp_eq (tgt := 1315) hz dL_law_1097 (by decide) (fun hc => ?_) (fun hc => ?_)
      · replace h := (if_pos hc).symm.trans h
        exact v_weak (lvle_s (lvle_s (lvle_s (lvle_s lvle_0)))) (wL_law_1315 hz hX hR (by omega) (by omega) (fun h => hK18 h (by omega) (by omega)) h)
      · replace h := (if_neg hc).symm.trans h
        refine v_iconst hz (v := (0 : Int32)) (by decide) dL_law_1100 ?_
        cases h
    replace h := (if_neg hs2_29).symm.trans h
    by_cases hs2_30 : ((xs l3.toNatClampNeg) &&& (63 : Int32)) = (30 : Int32)
    · replace h := (if_pos hs2_30).symm.trans h
      refine v_tableAt (tgt := 1102) hz hs2_30 dL_law_33 (by decide) (by decide) (by decide) (by decide) ?_
      refine v_aload_n hz rfl rfl dL_law_1102 ?_
      refine v_xload_n hz rfl rfl dL_law_1103 ?_
      refine v_iload_n hz rfl rfl dL_law_1104 ?_
      refine v_iconst hz (v := (1 : Int32)) (by decide) dL_law_1105 ?_
      refine v_iadd hz dL_law_1106 ?_
      obtain ⟨g225, h⟩ := ck_inv h
      refine v_sload hz hX dL_law_1107 g225 ?_
      refine v_xload_n hz rfl rfl dL_law_1108 ?_
      refine v_iload_n hz rfl rfl dL_law_1109 ?_
      refine v_iconst hz (v := (2 : Int32)) (by decide) dL_law_1110 ?_
      refine v_iadd hz dL_law_1111 ?_
      obtain ⟨g226, h⟩ := ck_inv h
      refine v_sload hz hX dL_law_1112 g226 ?_
      refine v_xload_n hz rfl rfl dL_law_1113 ?_
      refine v_iload_n hz rfl rfl dL_law_1114 ?_
      refine v_iconst hz (v := (3 : Int32)) (by decide) dL_law_1115 ?_
      refine v_iadd hz dL_law_1116 ?_
      obtain ⟨g227, h⟩ := ck_inv h
      refine v_sload hz hX dL_law_1117 g227 ?_
      obtain ⟨ck228, h⟩ := ck_inv h
      obtain ⟨ka228, kb228⟩ := isK_of ck228
      obtain ⟨x229, M229, e229, h⟩ := bd_inv h
      refine v_callV hz (As := [.int (xs (l3 + (1 : Int32)).toNatClampNeg), .int (xs (l3 + (2 : Int32)).toNatClampNeg), .int (xs (l3 + (3 : Int32)).toNatClampNeg)]) vl_L_140 (tX11_tape (r + 78) e229) rfl (by decide) ka228 kb228 rfl rfl rfl (Nat.le_of_ble_eq_true rfl) ⟨by omega, by omega⟩ dL_law_1118 ?_
      show V z 1121 [some (.retAddr 30), some (.ref l1), some (.ref l2), some (.int l3)] [.int x229] M229 (nc + 0) (ns + 0)
      refine v_aload_n hz rfl rfl dL_law_1121 ?_
      refine v_xload_n hz rfl rfl dL_law_1122 ?_
      refine v_iload_n hz rfl rfl dL_law_1123 ?_
      refine v_iconst hz (v := (1 : Int32)) (by decide) dL_law_1124 ?_
      refine v_iadd hz dL_law_1125 ?_
      obtain ⟨g230, h⟩ := ck_inv h
      refine v_sload hz hX dL_law_1126 g230 ?_
      refine v_xload_n hz rfl rfl dL_law_1127 ?_
      refine v_iload_n hz rfl rfl dL_law_1128 ?_
      refine v_iconst hz (v := (2 : Int32)) (by decide) dL_law_1129 ?_
      refine v_iadd hz dL_law_1130 ?_
      obtain ⟨g231, h⟩ := ck_inv h
      refine v_sload hz hX dL_law_1131 g231 ?_
      refine v_xload_n hz rfl rfl dL_law_1132 ?_
      refine v_iload_n hz rfl rfl dL_law_1133 ?_
      refine v_iconst hz (v := (3 : Int32)) (by decide) dL_law_1134 ?_
      refine v_iadd hz dL_law_1135 ?_
      obtain ⟨g232, h⟩ := ck_inv h
      refine v_sload hz hX dL_law_1136 g232 ?_
      obtain ⟨ck233, h⟩ := ck_inv h
      obtain ⟨ka233, kb233⟩ := isK_of ck233
      obtain ⟨x234, M234, e234, h⟩ := bd_inv h
      refine v_callV hz (As := [.int (xs (l3 + (1 : Int32)).toNatClampNeg), .int (xs (l3 + (2 : Int32)).toNatClampNeg), .int (xs (l3 + (3 : Int32)).toNatClampNeg)]) vl_L_143 (tX12_tape (r + 77) e234) rfl (by decide) ka233 kb233 rfl rfl rfl (Nat.le_of_ble_eq_true rfl) ⟨by omega, by omega⟩ dL_law_1137 ?_
      show V z 1140 [some (.retAddr 30), some (.ref l1), some (.ref l2), some (.int l3)] [.int x234, .int x229] M234 (nc + 0) (ns + 0)
      refine v_icmp_eq (tgt := 1315) hz dL_law_1140 (by decide) (fun hc => ?_) (fun hc => ?_)
      · replace h := (if_pos hc).symm.trans h
        exact v_weak (lvle_s (lvle_s (lvle_s (lvle_s lvle_0)))) (wL_law_1315 hz hX hR (by omega) (by omega) (fun h => hK18 h (by omega) (by omega)) h)
      · replace h := (if_neg hc).symm.trans h
        refine v_iconst hz (v := (0 : Int32)) (by decide) dL_law_1143 ?_
        cases h
    replace h := (if_neg hs2_30).symm.trans h
    by_cases hs2_31 : ((xs l3.toNatClampNeg) &&& (63 : Int32)) = (31 : Int32)
    · replace h := (if_pos hs2_31).symm.trans h
      refine v_tableAt (tgt := 1145) hz hs2_31 dL_law_33 (by decide) (by decide) (by decide) (by decide) ?_
      refine v_aload_n hz rfl rfl dL_law_1145 ?_
      refine v_xload_n hz rfl rfl dL_law_1146 ?_
      refine v_iload_n hz rfl rfl dL_law_1147 ?_
      refine v_iconst hz (v := (1 : Int32)) (by decide) dL_law_1148 ?_
      refine v_iadd hz dL_law_1149 ?_
      obtain ⟨g235, h⟩ := ck_inv h
      refine v_sload hz hX dL_law_1150 g235 ?_
      refine v_xload_n hz rfl rfl dL_law_1151 ?_
      refine v_iload_n hz rfl rfl dL_law_1152 ?_
      refine v_iconst hz (v := (2 : Int32)) (by decide) dL_law_1153 ?_
      refine v_iadd hz dL_law_1154 ?_
      obtain ⟨g236, h⟩ := ck_inv h
      refine v_sload hz hX dL_law_1155 g236 ?_
      refine v_xload_n hz rfl rfl dL_law_1156 ?_
      refine v_iload_n hz rfl rfl dL_law_1157 ?_
      refine v_iconst hz (v := (3 : Int32)) (by decide) dL_law_1158 ?_
      refine v_iadd hz dL_law_1159 ?_
      obtain ⟨g237, h⟩ := ck_inv h
      refine v_sload hz hX dL_law_1160 g237 ?_
      refine v_i2l hz dL_law_1161 ?_
      refine v_bipush hz (v := (32 : Int32)) (by decide) dL_law_1162 ?_
      refine v_lshl hz dL_law_1164 ?_
      refine v_xload_n hz rfl rfl dL_law_1165 ?_
      refine v_iload_n hz rfl rfl dL_law_1166 ?_
      refine v_iconst hz (v := (4 : Int32)) (by decide) dL_law_1167 ?_
      refine v_iadd hz dL_law_1168 ?_
      obtain ⟨g238, h⟩ := ck_inv h
      refine v_sload hz hX dL_law_1169 g238 ?_
      refine v_i2l hz dL_law_1170 ?_
      refine v_ldc2 hz wq_1334 dL_law_1171 ?_
      refine v_land hz dL_law_1174 ?_
      refine v_lor hz dL_law_1175 ?_
      obtain ⟨ck239, h⟩ := ck_inv h
      obtain ⟨ka239, kb239⟩ := isK_of ck239
      obtain ⟨x240, M240, e240, h⟩ := bd_inv h
      refine v_callV hz (As := [.int (xs (l3 + (1 : Int32)).toNatClampNeg), .int (xs (l3 + (2 : Int32)).toNatClampNeg), .long ((((xs (l3 + (3 : Int32)).toNatClampNeg).toInt64) <<< ((32 : Int32).toInt64 &&& 63)) ||| (((xs (l3 + (4 : Int32)).toNatClampNeg).toInt64) &&& (4294967295 : Int64)))]) vl_L_146 (tX11_item (r + 78) e240) rfl (by decide) ka239 kb239 rfl rfl rfl (Nat.le_of_ble_eq_true rfl) ⟨by omega, by omega⟩ dL_law_1176 ?_
      show V z 1179 [some (.retAddr 30), some (.ref l1), some (.ref l2), some (.int l3)] [.int x240] M240 (nc + 0) (ns + 0)
      refine v_aload_n hz rfl rfl dL_law_1179 ?_
      refine v_xload_n hz rfl rfl dL_law_1180 ?_
      refine v_iload_n hz rfl rfl dL_law_1181 ?_
      refine v_iconst hz (v := (1 : Int32)) (by decide) dL_law_1182 ?_
      refine v_iadd hz dL_law_1183 ?_
      obtain ⟨g241, h⟩ := ck_inv h
      refine v_sload hz hX dL_law_1184 g241 ?_
      refine v_xload_n hz rfl rfl dL_law_1185 ?_
      refine v_iload_n hz rfl rfl dL_law_1186 ?_
      refine v_iconst hz (v := (2 : Int32)) (by decide) dL_law_1187 ?_
      refine v_iadd hz dL_law_1188 ?_
      obtain ⟨g242, h⟩ := ck_inv h
      refine v_sload hz hX dL_law_1189 g242 ?_
      refine v_xload_n hz rfl rfl dL_law_1190 ?_
      refine v_iload_n hz rfl rfl dL_law_1191 ?_
      refine v_iconst hz (v := (3 : Int32)) (by decide) dL_law_1192 ?_
      refine v_iadd hz dL_law_1193 ?_
      obtain ⟨g243, h⟩ := ck_inv h
      refine v_sload hz hX dL_law_1194 g243 ?_
      refine v_i2l hz dL_law_1195 ?_
      refine v_bipush hz (v := (32 : Int32)) (by decide) dL_law_1196 ?_
      refine v_lshl hz dL_law_1198 ?_
      refine v_xload_n hz rfl rfl dL_law_1199 ?_
      refine v_iload_n hz rfl rfl dL_law_1200 ?_
      refine v_iconst hz (v := (4 : Int32)) (by decide) dL_law_1201 ?_
      refine v_iadd hz dL_law_1202 ?_
      obtain ⟨g244, h⟩ := ck_inv h
      refine v_sload hz hX dL_law_1203 g244 ?_
      refine v_i2l hz dL_law_1204 ?_
      refine v_ldc2 hz wq_1334 dL_law_1205 ?_
      refine v_land hz dL_law_1208 ?_
      refine v_lor hz dL_law_1209 ?_
      obtain ⟨ck245, h⟩ := ck_inv h
      obtain ⟨ka245, kb245⟩ := isK_of ck245
      obtain ⟨x246, M246, e246, h⟩ := bd_inv h
      refine v_callV hz (As := [.int (xs (l3 + (1 : Int32)).toNatClampNeg), .int (xs (l3 + (2 : Int32)).toNatClampNeg), .long ((((xs (l3 + (3 : Int32)).toNatClampNeg).toInt64) <<< ((32 : Int32).toInt64 &&& 63)) ||| (((xs (l3 + (4 : Int32)).toNatClampNeg).toInt64) &&& (4294967295 : Int64)))]) vl_L_150 (tX12_item (r + 77) e246) rfl (by decide) ka245 kb245 rfl rfl rfl (Nat.le_of_ble_eq_true rfl) ⟨by omega, by omega⟩ dL_law_1210 ?_
      show V z 1213 [some (.retAddr 30), some (.ref l1), some (.ref l2), some (.int l3)] [.int x246, .int x240] M246 (nc + 0) (ns + 0)
      refine v_icmp_eq (tgt := 1315) hz dL_law_1213 (by decide) (fun hc => ?_) (fun hc => ?_)
      · replace h := (if_pos hc).symm.trans h
        exact v_weak (lvle_s (lvle_s (lvle_s (lvle_s lvle_0)))) (wL_law_1315 hz hX hR (by omega) (by omega) (fun h => hK18 h (by omega) (by omega)) h)
      · replace h := (if_neg hc).symm.trans h
        refine v_iconst hz (v := (0 : Int32)) (by decide) dL_law_1216 ?_
        cases h
    replace h := (if_neg hs2_31).symm.trans h
    by_cases hs2_32 : ((xs l3.toNatClampNeg) &&& (63 : Int32)) = (32 : Int32)
    · replace h := (if_pos hs2_32).symm.trans h
      refine v_tableAt (tgt := 1218) hz hs2_32 dL_law_33 (by decide) (by decide) (by decide) (by decide) ?_
      refine v_aload_n hz rfl rfl dL_law_1218 ?_
      refine v_xload_n hz rfl rfl dL_law_1219 ?_
      refine v_iload_n hz rfl rfl dL_law_1220 ?_
      refine v_iconst hz (v := (1 : Int32)) (by decide) dL_law_1221 ?_
      refine v_iadd hz dL_law_1222 ?_
      obtain ⟨g247, h⟩ := ck_inv h
      refine v_sload hz hX dL_law_1223 g247 ?_
      refine v_xload_n hz rfl rfl dL_law_1224 ?_
      refine v_iload_n hz rfl rfl dL_law_1225 ?_
      refine v_iconst hz (v := (2 : Int32)) (by decide) dL_law_1226 ?_
      refine v_iadd hz dL_law_1227 ?_
      obtain ⟨g248, h⟩ := ck_inv h
      refine v_sload hz hX dL_law_1228 g248 ?_
      obtain ⟨ck249, h⟩ := ck_inv h
      obtain ⟨ka249, kb249⟩ := isK_of ck249
      obtain ⟨x250, M250, e250, h⟩ := bd_inv h
      refine v_callV hz (As := [.int (xs (l3 + (1 : Int32)).toNatClampNeg), .int (xs (l3 + (2 : Int32)).toNatClampNeg)]) vl_L_151 (tX11_read (r + 78) e250) rfl (by decide) ka249 kb249 rfl rfl rfl (Nat.le_of_ble_eq_true rfl) ⟨by omega, by omega⟩ dL_law_1229 ?_
      show V z 1232 [some (.retAddr 30), some (.ref l1), some (.ref l2), some (.int l3)] [.long x250] M250 (nc + 0) (ns + 0)
      refine v_aload_n hz rfl rfl dL_law_1232 ?_
      refine v_xload_n hz rfl rfl dL_law_1233 ?_
      refine v_iload_n hz rfl rfl dL_law_1234 ?_
      refine v_iconst hz (v := (1 : Int32)) (by decide) dL_law_1235 ?_
      refine v_iadd hz dL_law_1236 ?_
      obtain ⟨g251, h⟩ := ck_inv h
      refine v_sload hz hX dL_law_1237 g251 ?_
      refine v_xload_n hz rfl rfl dL_law_1238 ?_
      refine v_iload_n hz rfl rfl dL_law_1239 ?_
      refine v_iconst hz (v := (2 : Int32)) (by decide) dL_law_1240 ?_
      refine v_iadd hz dL_law_1241 ?_
      obtain ⟨g252, h⟩ := ck_inv h
      refine v_sload hz hX dL_law_1242 g252 ?_
      obtain ⟨ck253, h⟩ := ck_inv h
      obtain ⟨ka253, kb253⟩ := isK_of ck253
      obtain ⟨x254, M254, e254, h⟩ := bd_inv h
      refine v_callV hz (As := [.int (xs (l3 + (1 : Int32)).toNatClampNeg), .int (xs (l3 + (2 : Int32)).toNatClampNeg)]) vl_L_154 (tX12_read (r + 77) e254) rfl (by decide) ka253 kb253 rfl rfl rfl (Nat.le_of_ble_eq_true rfl) ⟨by omega, by omega⟩ dL_law_1243 ?_
      show V z 1246 [some (.retAddr 30), some (.ref l1), some (.ref l2), some (.int l3)] [.long x254, .long x250] M254 (nc + 0) (ns + 0)
      refine v_lcmp hz dL_law_1246 ?_
      refine v_if_eq (tgt := 1315) hz dL_law_1247 (by decide) (fun hc => ?_) (fun hc => ?_)
      · replace h := (if_pos hc).symm.trans h
        exact v_weak (lvle_s (lvle_s (lvle_s (lvle_s lvle_0)))) (wL_law_1315 hz hX hR (by omega) (by omega) (fun h => hK18 h (by omega) (by omega)) h)
      · replace h := (if_neg hc).symm.trans h
        refine v_iconst hz (v := (0 : Int32)) (by decide) dL_law_1250 ?_
        cases h
    replace h := (if_neg hs2_32).symm.trans h
    by_cases hs2_33 : ((xs l3.toNatClampNeg) &&& (63 : Int32)) = (33 : Int32)
    · replace h := (if_pos hs2_33).symm.trans h
      refine v_tableAt (tgt := 1252) hz hs2_33 dL_law_33 (by decide) (by decide) (by decide) (by decide) ?_
      refine v_aload_n hz rfl rfl dL_law_1252 ?_
      refine v_xload_n hz rfl rfl dL_law_1253 ?_
      refine v_iload_n hz rfl rfl dL_law_1254 ?_
      refine v_iconst hz (v := (1 : Int32)) (by decide) dL_law_1255 ?_
      refine v_iadd hz dL_law_1256 ?_
      obtain ⟨g255, h⟩ := ck_inv h
      refine v_sload hz hX dL_law_1257 g255 ?_
      refine v_xload_n hz rfl rfl dL_law_1258 ?_
      refine v_iload_n hz rfl rfl dL_law_1259 ?_
      refine v_iconst hz (v := (2 : Int32)) (by decide) dL_law_1260 ?_
      refine v_iadd hz dL_law_1261 ?_
      obtain ⟨g256, h⟩ := ck_inv h
      refine v_sload hz hX dL_law_1262 g256 ?_
      refine v_xload_n hz rfl rfl dL_law_1263 ?_
      refine v_iload_n hz rfl rfl dL_law_1264 ?_
      refine v_iconst hz (v := (3 : Int32)) (by decide) dL_law_1265 ?_
      refine v_iadd hz dL_law_1266 ?_
      obtain ⟨g257, h⟩ := ck_inv h
      refine v_sload hz hX dL_law_1267 g257 ?_
      refine v_xload_n hz rfl rfl dL_law_1268 ?_
      refine v_iload_n hz rfl rfl dL_law_1269 ?_
      refine v_iconst hz (v := (4 : Int32)) (by decide) dL_law_1270 ?_
      refine v_iadd hz dL_law_1271 ?_
      obtain ⟨g258, h⟩ := ck_inv h
      refine v_sload hz hX dL_law_1272 g258 ?_
      refine v_xload_n hz rfl rfl dL_law_1273 ?_
      refine v_iload_n hz rfl rfl dL_law_1274 ?_
      refine v_iconst hz (v := (5 : Int32)) (by decide) dL_law_1275 ?_
      refine v_iadd hz dL_law_1276 ?_
      obtain ⟨g259, h⟩ := ck_inv h
      refine v_sload hz hX dL_law_1277 g259 ?_
      obtain ⟨ck260, h⟩ := ck_inv h
      obtain ⟨ka260, kb260⟩ := isK_of ck260
      obtain ⟨x261, M261, e261, h⟩ := bd_inv h
      refine v_callV hz (As := [.int (xs (l3 + (1 : Int32)).toNatClampNeg), .int (xs (l3 + (2 : Int32)).toNatClampNeg), .int (xs (l3 + (3 : Int32)).toNatClampNeg), .int (xs (l3 + (4 : Int32)).toNatClampNeg), .int (xs (l3 + (5 : Int32)).toNatClampNeg)]) vl_L_155 (tX11_shift (r + 78) e261) rfl (by decide) ka260 kb260 rfl rfl rfl (Nat.le_of_ble_eq_true rfl) ⟨by omega, by omega⟩ dL_law_1278 ?_
      show V z 1281 [some (.retAddr 30), some (.ref l1), some (.ref l2), some (.int l3)] [.int x261] M261 (nc + 0) (ns + 0)
      refine v_aload_n hz rfl rfl dL_law_1281 ?_
      refine v_xload_n hz rfl rfl dL_law_1282 ?_
      refine v_iload_n hz rfl rfl dL_law_1283 ?_
      refine v_iconst hz (v := (1 : Int32)) (by decide) dL_law_1284 ?_
      refine v_iadd hz dL_law_1285 ?_
      obtain ⟨g262, h⟩ := ck_inv h
      refine v_sload hz hX dL_law_1286 g262 ?_
      refine v_xload_n hz rfl rfl dL_law_1287 ?_
      refine v_iload_n hz rfl rfl dL_law_1288 ?_
      refine v_iconst hz (v := (2 : Int32)) (by decide) dL_law_1289 ?_
      refine v_iadd hz dL_law_1290 ?_
      obtain ⟨g263, h⟩ := ck_inv h
      refine v_sload hz hX dL_law_1291 g263 ?_
      refine v_xload_n hz rfl rfl dL_law_1292 ?_
      refine v_iload_n hz rfl rfl dL_law_1293 ?_
      refine v_iconst hz (v := (3 : Int32)) (by decide) dL_law_1294 ?_
      refine v_iadd hz dL_law_1295 ?_
      obtain ⟨g264, h⟩ := ck_inv h
      refine v_sload hz hX dL_law_1296 g264 ?_
      refine v_xload_n hz rfl rfl dL_law_1297 ?_
      refine v_iload_n hz rfl rfl dL_law_1298 ?_
      refine v_iconst hz (v := (4 : Int32)) (by decide) dL_law_1299 ?_
      refine v_iadd hz dL_law_1300 ?_
      obtain ⟨g265, h⟩ := ck_inv h
      refine v_sload hz hX dL_law_1301 g265 ?_
      refine v_xload_n hz rfl rfl dL_law_1302 ?_
      refine v_iload_n hz rfl rfl dL_law_1303 ?_
      refine v_iconst hz (v := (5 : Int32)) (by decide) dL_law_1304 ?_
      refine v_iadd hz dL_law_1305 ?_
      obtain ⟨g266, h⟩ := ck_inv h
      refine v_sload hz hX dL_law_1306 g266 ?_
      obtain ⟨ck267, h⟩ := ck_inv h
      obtain ⟨ka267, kb267⟩ := isK_of ck267
      obtain ⟨x268, M268, e268, h⟩ := bd_inv h
      refine v_callV hz (As := [.int (xs (l3 + (1 : Int32)).toNatClampNeg), .int (xs (l3 + (2 : Int32)).toNatClampNeg), .int (xs (l3 + (3 : Int32)).toNatClampNeg), .int (xs (l3 + (4 : Int32)).toNatClampNeg), .int (xs (l3 + (5 : Int32)).toNatClampNeg)]) vl_L_159 (tX12_shift (r + 77) e268) rfl (by decide) ka267 kb267 rfl rfl rfl (Nat.le_of_ble_eq_true rfl) ⟨by omega, by omega⟩ dL_law_1307 ?_
      show V z 1310 [some (.retAddr 30), some (.ref l1), some (.ref l2), some (.int l3)] [.int x268, .int x261] M268 (nc + 0) (ns + 0)
      refine v_icmp_eq (tgt := 1315) hz dL_law_1310 (by decide) (fun hc => ?_) (fun hc => ?_)
      · replace h := (if_pos hc).symm.trans h
        exact v_weak (lvle_s (lvle_s (lvle_s (lvle_s lvle_0)))) (wL_law_1315 hz hX hR (by omega) (by omega) (fun h => hK18 h (by omega) (by omega)) h)
      · replace h := (if_neg hc).symm.trans h
        refine v_iconst hz (v := (0 : Int32)) (by decide) dL_law_1313 ?_
        cases h
    replace h := (if_neg hs2_33).symm.trans h
    refine v_tableOut (tgt := 1315) hz dL_law_33 (by have q0 := lv_neT hs2_0 (show ((0 : Int32)).toInt = 0 by decide); have q1 := lv_neT hs2_1 (show ((1 : Int32)).toInt = 1 by decide); have q2 := lv_neT hs2_2 (show ((2 : Int32)).toInt = 2 by decide); have q3 := lv_neT hs2_3 (show ((3 : Int32)).toInt = 3 by decide); have q4 := lv_neT hs2_4 (show ((4 : Int32)).toInt = 4 by decide); have q5 := lv_neT hs2_5 (show ((5 : Int32)).toInt = 5 by decide); have q6 := lv_neT hs2_6 (show ((6 : Int32)).toInt = 6 by decide); have q7 := lv_neT hs2_7 (show ((7 : Int32)).toInt = 7 by decide); have q8 := lv_neT hs2_8 (show ((8 : Int32)).toInt = 8 by decide); have q9 := lv_neT hs2_9 (show ((9 : Int32)).toInt = 9 by decide); have q10 := lv_neT hs2_10 (show ((10 : Int32)).toInt = 10 by decide); have q11 := lv_neT hs2_11 (show ((11 : Int32)).toInt = 11 by decide); have q12 := lv_neT hs2_12 (show ((12 : Int32)).toInt = 12 by decide); have q13 := lv_neT hs2_13 (show ((13 : Int32)).toInt = 13 by decide); have q14 := lv_neT hs2_14 (show ((14 : Int32)).toInt = 14 by decide); have q15 := lv_neT hs2_15 (show ((15 : Int32)).toInt = 15 by decide); have q16 := lv_neT hs2_16 (show ((16 : Int32)).toInt = 16 by decide); have q17 := lv_neT hs2_17 (show ((17 : Int32)).toInt = 17 by decide); have q18 := lv_neT hs2_18 (show ((18 : Int32)).toInt = 18 by decide); have q19 := lv_neT hs2_19 (show ((19 : Int32)).toInt = 19 by decide); have q20 := lv_neT hs2_20 (show ((20 : Int32)).toInt = 20 by decide); have q21 := lv_neT hs2_21 (show ((21 : Int32)).toInt = 21 by decide); have q22 := lv_neT hs2_22 (show ((22 : Int32)).toInt = 22 by decide); have q23 := lv_neT hs2_23 (show ((23 : Int32)).toInt = 23 by decide); have q24 := lv_neT hs2_24 (show ((24 : Int32)).toInt = 24 by decide); have q25 := lv_neT hs2_25 (show ((25 : Int32)).toInt = 25 by decide); have q26 := lv_neT hs2_26 (show ((26 : Int32)).toInt = 26 by decide); have q27 := lv_neT hs2_27 (show ((27 : Int32)).toInt = 27 by decide); have q28 := lv_neT hs2_28 (show ((28 : Int32)).toInt = 28 by decide); have q29 := lv_neT hs2_29 (show ((29 : Int32)).toInt = 29 by decide); have q30 := lv_neT hs2_30 (show ((30 : Int32)).toInt = 30 by decide); have q31 := lv_neT hs2_31 (show ((31 : Int32)).toInt = 31 by decide); have q32 := lv_neT hs2_32 (show ((32 : Int32)).toInt = 32 by decide); have q33 := lv_neT hs2_33 (show ((33 : Int32)).toInt = 33 by decide); omega) (by decide) ?_
    exact v_weak (lvle_s (lvle_s (lvle_s (lvle_s lvle_0)))) (wL_law_1315 hz hX hR (by omega) (by omega) (fun h => hK18 h (by omega) (by omega)) h)
