/-! GrainInnLaw.law([I)Z -/
noncomputable def W_law_j1649 (sc : Sc) (h : Hp) : Option (Int32 × Hp) := some ((1 : Int32), h)
noncomputable def W_law_j1643 (sc : Sc) (x3 : Int32) (h : Hp) : Option ((Int32 × Hp) ⊕ (Int32 × Hp)) := bnd ((x3 + (8 : Int32))) fun y1 => some (.inl (y1, h))
noncomputable def W_law_j225 (sc : Sc) (h : Hp) : Option (Int32 × Hp) := some ((0 : Int32), h)
noncomputable def W_law_j248 (sc : Sc) (h : Hp) : Option (Int32 × Hp) := some ((0 : Int32), h)
noncomputable def W_law_j281 (sc : Sc) (h : Hp) : Option (Int32 × Hp) := some ((0 : Int32), h)
noncomputable def W_law_j304 (sc : Sc) (h : Hp) : Option (Int32 × Hp) := some ((0 : Int32), h)
noncomputable def W_law_j337 (sc : Sc) (h : Hp) : Option (Int32 × Hp) := some ((0 : Int32), h)
noncomputable def W_law_j380 (sc : Sc) (h : Hp) : Option (Int32 × Hp) := some ((0 : Int32), h)
noncomputable def W_law_j413 (sc : Sc) (h : Hp) : Option (Int32 × Hp) := some ((0 : Int32), h)
noncomputable def W_law_j466 (sc : Sc) (h : Hp) : Option (Int32 × Hp) := some ((0 : Int32), h)
noncomputable def W_law_j529 (sc : Sc) (h : Hp) : Option (Int32 × Hp) := some ((0 : Int32), h)
noncomputable def W_law_j604 (sc : Sc) (h : Hp) : Option (Int32 × Hp) := some ((0 : Int32), h)
noncomputable def W_law_j647 (sc : Sc) (h : Hp) : Option (Int32 × Hp) := some ((0 : Int32), h)
noncomputable def W_law_j710 (sc : Sc) (h : Hp) : Option (Int32 × Hp) := some ((0 : Int32), h)
noncomputable def W_law_j785 (sc : Sc) (h : Hp) : Option (Int32 × Hp) := some ((0 : Int32), h)
noncomputable def W_law_j848 (sc : Sc) (h : Hp) : Option (Int32 × Hp) := some ((0 : Int32), h)
noncomputable def W_law_j881 (sc : Sc) (h : Hp) : Option (Int32 × Hp) := some ((0 : Int32), h)
noncomputable def W_law_j934 (sc : Sc) (h : Hp) : Option (Int32 × Hp) := some ((0 : Int32), h)
noncomputable def W_law_j1021 (sc : Sc) (h : Hp) : Option (Int32 × Hp) := some ((0 : Int32), h)
noncomputable def W_law_j1096 (sc : Sc) (h : Hp) : Option (Int32 × Hp) := some ((0 : Int32), h)
noncomputable def W_law_j1175 (sc : Sc) (h : Hp) : Option (Int32 × Hp) := some ((0 : Int32), h)
noncomputable def W_law_j1169 (sc : Sc) (x3 : Int32) (s0 : Int32) (s2 : Int32) (s3 : Int32) (s4 : Int32) (s5 : Int32) (s6 : Int32) (h : Hp) : Option ((Int32 × Hp) ⊕ (Int32 × Hp)) := (M_whisper h s2 s3 s4 s5 s6).bind fun (r2, h3) => if s0 = r2 then ((W_law_j1643 sc x3 h3)) else (((W_law_j1175 sc h3).map Sum.inr))
noncomputable def W_law_j1132 (sc : Sc) (x3 : Int32) (s1 : Int32) (s2 : Int32) (s3 : Int32) (s4 : Int32) (s5 : Int32) (h : Hp) : Option ((Int32 × Hp) ⊕ (Int32 × Hp)) := (K_whisper h s1 s2 s3 s4 s5).bind fun (r5, h6) => if inb (x3 + (1 : Int32)) sc.2 then (if inb (x3 + (2 : Int32)) sc.2 then (if inb (x3 + (3 : Int32)) sc.2 then (if inb (x3 + (4 : Int32)) sc.2 then (if inb (x3 + (5 : Int32)) sc.2 then (if (sc.1 (Int32.toNatClampNeg (x3 + (5 : Int32)))) = 0 then ((W_law_j1169 sc x3 r5 (sc.1 (Int32.toNatClampNeg (x3 + (1 : Int32)))) (sc.1 (Int32.toNatClampNeg (x3 + (2 : Int32)))) (sc.1 (Int32.toNatClampNeg (x3 + (3 : Int32)))) (sc.1 (Int32.toNatClampNeg (x3 + (4 : Int32)))) (0 : Int32) h6)) else ((W_law_j1169 sc x3 r5 (sc.1 (Int32.toNatClampNeg (x3 + (1 : Int32)))) (sc.1 (Int32.toNatClampNeg (x3 + (2 : Int32)))) (sc.1 (Int32.toNatClampNeg (x3 + (3 : Int32)))) (sc.1 (Int32.toNatClampNeg (x3 + (4 : Int32)))) (1 : Int32) h6))) else none) else none) else none) else none) else none
noncomputable def W_law_j1224 (sc : Sc) (h : Hp) : Option (Int32 × Hp) := some ((0 : Int32), h)
noncomputable def W_law_j1218 (sc : Sc) (x3 : Int32) (s0 : Int32) (s2 : Int32) (s3 : Int32) (h : Hp) : Option ((Int32 × Hp) ⊕ (Int32 × Hp)) := (M_council h s2 s3).bind fun (r13, h14) => if s0 = r13 then ((W_law_j1643 sc x3 h14)) else (((W_law_j1224 sc h14).map Sum.inr))
noncomputable def W_law_j1196 (sc : Sc) (x3 : Int32) (s1 : Int32) (s2 : Int32) (h : Hp) : Option ((Int32 × Hp) ⊕ (Int32 × Hp)) := (K_council h s1 s2).bind fun (r16, h17) => if inb (x3 + (1 : Int32)) sc.2 then (if inb (x3 + (2 : Int32)) sc.2 then (if (sc.1 (Int32.toNatClampNeg (x3 + (2 : Int32)))) = 0 then ((W_law_j1218 sc x3 r16 (sc.1 (Int32.toNatClampNeg (x3 + (1 : Int32)))) (0 : Int32) h17)) else ((W_law_j1218 sc x3 r16 (sc.1 (Int32.toNatClampNeg (x3 + (1 : Int32)))) (1 : Int32) h17))) else none) else none
noncomputable def W_law_j1277 (sc : Sc) (h : Hp) : Option (Int32 × Hp) := some ((0 : Int32), h)
noncomputable def W_law_j1340 (sc : Sc) (h : Hp) : Option (Int32 × Hp) := some ((0 : Int32), h)
noncomputable def W_law_j1393 (sc : Sc) (h : Hp) : Option (Int32 × Hp) := some ((0 : Int32), h)
noncomputable def W_law_j1456 (sc : Sc) (h : Hp) : Option (Int32 × Hp) := some ((0 : Int32), h)
noncomputable def W_law_j1519 (sc : Sc) (h : Hp) : Option (Int32 × Hp) := some ((0 : Int32), h)
noncomputable def W_law_j1572 (sc : Sc) (h : Hp) : Option (Int32 × Hp) := some ((0 : Int32), h)
noncomputable def W_law_j1595 (sc : Sc) (h : Hp) : Option (Int32 × Hp) := some ((0 : Int32), h)
noncomputable def W_law_j1618 (sc : Sc) (h : Hp) : Option (Int32 × Hp) := some ((0 : Int32), h)
noncomputable def W_law_j1641 (sc : Sc) (h : Hp) : Option (Int32 × Hp) := some ((0 : Int32), h)
noncomputable def W_law_b18 (sc : Sc) (x3 : Int32) (h : Hp) : Option ((Int32 × Hp) ⊕ (Int32 × Hp)) := if ((Int32.ofNat sc.2) - (8 : Int32)) < x3 then (((W_law_j1649 sc h).map Sum.inr)) else (if inb x3 sc.2 then (if ((sc.1 (Int32.toNatClampNeg x3)) &&& (31 : Int32)) = (0 : Int32) then (if inb (x3 + (1 : Int32)) sc.2 then (if inb (x3 + (2 : Int32)) sc.2 then (if inb (x3 + (3 : Int32)) sc.2 then (if inb (x3 + (4 : Int32)) sc.2 then (if inb (x3 + (5 : Int32)) sc.2 then ((K_feed h (sc.1 (Int32.toNatClampNeg (x3 + (1 : Int32)))) (sc.1 (Int32.toNatClampNeg (x3 + (2 : Int32)))) (sc.1 (Int32.toNatClampNeg (x3 + (3 : Int32)))) (sc.1 (Int32.toNatClampNeg (x3 + (4 : Int32)))) (sc.1 (Int32.toNatClampNeg (x3 + (5 : Int32))))).bind fun (r29, h30) => if inb (x3 + (1 : Int32)) sc.2 then (if inb (x3 + (2 : Int32)) sc.2 then (if inb (x3 + (3 : Int32)) sc.2 then (if inb (x3 + (4 : Int32)) sc.2 then (if inb (x3 + (5 : Int32)) sc.2 then ((M_feed h30 (sc.1 (Int32.toNatClampNeg (x3 + (1 : Int32)))) (sc.1 (Int32.toNatClampNeg (x3 + (2 : Int32)))) (sc.1 (Int32.toNatClampNeg (x3 + (3 : Int32)))) (sc.1 (Int32.toNatClampNeg (x3 + (4 : Int32)))) (sc.1 (Int32.toNatClampNeg (x3 + (5 : Int32))))).bind fun (r36, h37) => if r29 = r36 then ((W_law_j1643 sc x3 h37)) else (((W_law_j225 sc h37).map Sum.inr))) else none) else none) else none) else none) else none) else none) else none) else none) else none) else none) else (if ((sc.1 (Int32.toNatClampNeg x3)) &&& (31 : Int32)) = (1 : Int32) then (if inb (x3 + (1 : Int32)) sc.2 then ((K_end h (sc.1 (Int32.toNatClampNeg (x3 + (1 : Int32))))).bind fun (r41, h42) => if inb (x3 + (1 : Int32)) sc.2 then ((M_end h42 (sc.1 (Int32.toNatClampNeg (x3 + (1 : Int32))))).bind fun (r44, h45) => if r41 = r44 then ((W_law_j1643 sc x3 h45)) else (((W_law_j248 sc h45).map Sum.inr))) else none) else none) else (if ((sc.1 (Int32.toNatClampNeg x3)) &&& (31 : Int32)) = (2 : Int32) then (if inb (x3 + (1 : Int32)) sc.2 then (if inb (x3 + (2 : Int32)) sc.2 then ((K_text h (sc.1 (Int32.toNatClampNeg (x3 + (1 : Int32)))) (sc.1 (Int32.toNatClampNeg (x3 + (2 : Int32))))).bind fun (r50, h51) => if inb (x3 + (1 : Int32)) sc.2 then (if inb (x3 + (2 : Int32)) sc.2 then ((M_text h51 (sc.1 (Int32.toNatClampNeg (x3 + (1 : Int32)))) (sc.1 (Int32.toNatClampNeg (x3 + (2 : Int32))))).bind fun (r54, h55) => if r50 = r54 then ((W_law_j1643 sc x3 h55)) else (((W_law_j281 sc h55).map Sum.inr))) else none) else none) else none) else none) else (if ((sc.1 (Int32.toNatClampNeg x3)) &&& (31 : Int32)) = (3 : Int32) then (if inb (x3 + (1 : Int32)) sc.2 then ((K_fault h (sc.1 (Int32.toNatClampNeg (x3 + (1 : Int32))))).bind fun r59 => if inb (x3 + (1 : Int32)) sc.2 then ((M_fault h (sc.1 (Int32.toNatClampNeg (x3 + (1 : Int32))))).bind fun (r61, h62) => if r59 = r61 then ((W_law_j1643 sc x3 h62)) else (((W_law_j304 sc h62).map Sum.inr))) else none) else none) else (if ((sc.1 (Int32.toNatClampNeg x3)) &&& (31 : Int32)) = (4 : Int32) then (if inb (x3 + (1 : Int32)) sc.2 then (if inb (x3 + (2 : Int32)) sc.2 then ((K_inn h (sc.1 (Int32.toNatClampNeg (x3 + (1 : Int32)))) (sc.1 (Int32.toNatClampNeg (x3 + (2 : Int32))))).bind fun r67 => if inb (x3 + (1 : Int32)) sc.2 then (if inb (x3 + (2 : Int32)) sc.2 then ((M_inn h (sc.1 (Int32.toNatClampNeg (x3 + (1 : Int32)))) (sc.1 (Int32.toNatClampNeg (x3 + (2 : Int32))))).bind fun (r70, h71) => if r67 = r70 then ((W_law_j1643 sc x3 h71)) else (((W_law_j337 sc h71).map Sum.inr))) else none) else none) else none) else none) else (if ((sc.1 (Int32.toNatClampNeg x3)) &&& (31 : Int32)) = (5 : Int32) then (if inb (x3 + (1 : Int32)) sc.2 then (if inb (x3 + (2 : Int32)) sc.2 then (if inb (x3 + (3 : Int32)) sc.2 then ((K_deed h (sc.1 (Int32.toNatClampNeg (x3 + (1 : Int32)))) (sc.1 (Int32.toNatClampNeg (x3 + (2 : Int32)))) (sc.1 (Int32.toNatClampNeg (x3 + (3 : Int32))))).bind fun r77 => if inb (x3 + (1 : Int32)) sc.2 then (if inb (x3 + (2 : Int32)) sc.2 then (if inb (x3 + (3 : Int32)) sc.2 then ((M_deed h (sc.1 (Int32.toNatClampNeg (x3 + (1 : Int32)))) (sc.1 (Int32.toNatClampNeg (x3 + (2 : Int32)))) (sc.1 (Int32.toNatClampNeg (x3 + (3 : Int32))))).bind fun (r81, h82) => if r77 = r81 then ((W_law_j1643 sc x3 h82)) else (((W_law_j380 sc h82).map Sum.inr))) else none) else none) else none) else none) else none) else none) else (if ((sc.1 (Int32.toNatClampNeg x3)) &&& (31 : Int32)) = (6 : Int32) then (if inb (x3 + (1 : Int32)) sc.2 then (if inb (x3 + (2 : Int32)) sc.2 then ((K_stop h (sc.1 (Int32.toNatClampNeg (x3 + (1 : Int32)))) (sc.1 (Int32.toNatClampNeg (x3 + (2 : Int32))))).bind fun (r87, h88) => if inb (x3 + (1 : Int32)) sc.2 then (if inb (x3 + (2 : Int32)) sc.2 then ((M_stop h88 (sc.1 (Int32.toNatClampNeg (x3 + (1 : Int32)))) (sc.1 (Int32.toNatClampNeg (x3 + (2 : Int32))))).bind fun (r91, h92) => if r87 = r91 then ((W_law_j1643 sc x3 h92)) else (((W_law_j413 sc h92).map Sum.inr))) else none) else none) else none) else none) else (if ((sc.1 (Int32.toNatClampNeg x3)) &&& (31 : Int32)) = (7 : Int32) then (if inb (x3 + (1 : Int32)) sc.2 then (if inb (x3 + (2 : Int32)) sc.2 then (if inb (x3 + (3 : Int32)) sc.2 then (if inb (x3 + (4 : Int32)) sc.2 then ((K_state h (sc.1 (Int32.toNatClampNeg (x3 + (1 : Int32)))) (sc.1 (Int32.toNatClampNeg (x3 + (2 : Int32)))) (sc.1 (Int32.toNatClampNeg (x3 + (3 : Int32)))) (sc.1 (Int32.toNatClampNeg (x3 + (4 : Int32))))).bind fun (r99, h100) => if inb (x3 + (1 : Int32)) sc.2 then (if inb (x3 + (2 : Int32)) sc.2 then (if inb (x3 + (3 : Int32)) sc.2 then (if inb (x3 + (4 : Int32)) sc.2 then ((M_state h100 (sc.1 (Int32.toNatClampNeg (x3 + (1 : Int32)))) (sc.1 (Int32.toNatClampNeg (x3 + (2 : Int32)))) (sc.1 (Int32.toNatClampNeg (x3 + (3 : Int32)))) (sc.1 (Int32.toNatClampNeg (x3 + (4 : Int32))))).bind fun (r105, h106) => if r99 = r105 then ((W_law_j1643 sc x3 h106)) else (((W_law_j466 sc h106).map Sum.inr))) else none) else none) else none) else none) else none) else none) else none) else none) else (if ((sc.1 (Int32.toNatClampNeg x3)) &&& (31 : Int32)) = (8 : Int32) then (if inb (x3 + (1 : Int32)) sc.2 then (if inb (x3 + (2 : Int32)) sc.2 then (if inb (x3 + (3 : Int32)) sc.2 then (if inb (x3 + (4 : Int32)) sc.2 then (if inb (x3 + (5 : Int32)) sc.2 then ((K_guest h (sc.1 (Int32.toNatClampNeg (x3 + (1 : Int32)))) (sc.1 (Int32.toNatClampNeg (x3 + (2 : Int32)))) (sc.1 (Int32.toNatClampNeg (x3 + (3 : Int32)))) (sc.1 (Int32.toNatClampNeg (x3 + (4 : Int32)))) (sc.1 (Int32.toNatClampNeg (x3 + (5 : Int32))))).bind fun (r114, h115) => if inb (x3 + (1 : Int32)) sc.2 then (if inb (x3 + (2 : Int32)) sc.2 then (if inb (x3 + (3 : Int32)) sc.2 then (if inb (x3 + (4 : Int32)) sc.2 then (if inb (x3 + (5 : Int32)) sc.2 then ((M_guest h115 (sc.1 (Int32.toNatClampNeg (x3 + (1 : Int32)))) (sc.1 (Int32.toNatClampNeg (x3 + (2 : Int32)))) (sc.1 (Int32.toNatClampNeg (x3 + (3 : Int32)))) (sc.1 (Int32.toNatClampNeg (x3 + (4 : Int32)))) (sc.1 (Int32.toNatClampNeg (x3 + (5 : Int32))))).bind fun (r121, h122) => if r114 = r121 then ((W_law_j1643 sc x3 h122)) else (((W_law_j529 sc h122).map Sum.inr))) else none) else none) else none) else none) else none) else none) else none) else none) else none) else none) else (if ((sc.1 (Int32.toNatClampNeg x3)) &&& (31 : Int32)) = (9 : Int32) then (if inb (x3 + (1 : Int32)) sc.2 then (if inb (x3 + (2 : Int32)) sc.2 then (if inb (x3 + (3 : Int32)) sc.2 then (if inb (x3 + (4 : Int32)) sc.2 then (if inb (x3 + (5 : Int32)) sc.2 then (if inb (x3 + (6 : Int32)) sc.2 then ((K_past h (sc.1 (Int32.toNatClampNeg (x3 + (1 : Int32)))) (sc.1 (Int32.toNatClampNeg (x3 + (2 : Int32)))) (sc.1 (Int32.toNatClampNeg (x3 + (3 : Int32)))) (sc.1 (Int32.toNatClampNeg (x3 + (4 : Int32)))) (sc.1 (Int32.toNatClampNeg (x3 + (5 : Int32)))) (sc.1 (Int32.toNatClampNeg (x3 + (6 : Int32))))).bind fun (r131, h132) => if inb (x3 + (1 : Int32)) sc.2 then (if inb (x3 + (2 : Int32)) sc.2 then (if inb (x3 + (3 : Int32)) sc.2 then (if inb (x3 + (4 : Int32)) sc.2 then (if inb (x3 + (5 : Int32)) sc.2 then (if inb (x3 + (6 : Int32)) sc.2 then ((M_past h132 (sc.1 (Int32.toNatClampNeg (x3 + (1 : Int32)))) (sc.1 (Int32.toNatClampNeg (x3 + (2 : Int32)))) (sc.1 (Int32.toNatClampNeg (x3 + (3 : Int32)))) (sc.1 (Int32.toNatClampNeg (x3 + (4 : Int32)))) (sc.1 (Int32.toNatClampNeg (x3 + (5 : Int32)))) (sc.1 (Int32.toNatClampNeg (x3 + (6 : Int32))))).bind fun (r139, h140) => if r131 = r139 then ((W_law_j1643 sc x3 h140)) else (((W_law_j604 sc h140).map Sum.inr))) else none) else none) else none) else none) else none) else none) else none) else none) else none) else none) else none) else none) else (if ((sc.1 (Int32.toNatClampNeg x3)) &&& (31 : Int32)) = (10 : Int32) then (if inb (x3 + (1 : Int32)) sc.2 then (if inb (x3 + (2 : Int32)) sc.2 then (if inb (x3 + (3 : Int32)) sc.2 then ((K_wish h (sc.1 (Int32.toNatClampNeg (x3 + (1 : Int32)))) (sc.1 (Int32.toNatClampNeg (x3 + (2 : Int32)))) (sc.1 (Int32.toNatClampNeg (x3 + (3 : Int32))))).bind fun r146 => if inb (x3 + (1 : Int32)) sc.2 then (if inb (x3 + (2 : Int32)) sc.2 then (if inb (x3 + (3 : Int32)) sc.2 then ((M_wish h (sc.1 (Int32.toNatClampNeg (x3 + (1 : Int32)))) (sc.1 (Int32.toNatClampNeg (x3 + (2 : Int32)))) (sc.1 (Int32.toNatClampNeg (x3 + (3 : Int32))))).bind fun (r150, h151) => if r146 = r150 then ((W_law_j1643 sc x3 h151)) else (((W_law_j647 sc h151).map Sum.inr))) else none) else none) else none) else none) else none) else none) else (if ((sc.1 (Int32.toNatClampNeg x3)) &&& (31 : Int32)) = (11 : Int32) then (if inb (x3 + (1 : Int32)) sc.2 then (if inb (x3 + (2 : Int32)) sc.2 then (if inb (x3 + (3 : Int32)) sc.2 then (if inb (x3 + (4 : Int32)) sc.2 then (if inb (x3 + (5 : Int32)) sc.2 then ((K_seats h (sc.1 (Int32.toNatClampNeg (x3 + (1 : Int32)))) (sc.1 (Int32.toNatClampNeg (x3 + (2 : Int32)))) (sc.1 (Int32.toNatClampNeg (x3 + (3 : Int32)))) (sc.1 (Int32.toNatClampNeg (x3 + (4 : Int32)))) (sc.1 (Int32.toNatClampNeg (x3 + (5 : Int32))))).bind fun (r159, h160) => if inb (x3 + (1 : Int32)) sc.2 then (if inb (x3 + (2 : Int32)) sc.2 then (if inb (x3 + (3 : Int32)) sc.2 then (if inb (x3 + (4 : Int32)) sc.2 then (if inb (x3 + (5 : Int32)) sc.2 then ((M_seats h160 (sc.1 (Int32.toNatClampNeg (x3 + (1 : Int32)))) (sc.1 (Int32.toNatClampNeg (x3 + (2 : Int32)))) (sc.1 (Int32.toNatClampNeg (x3 + (3 : Int32)))) (sc.1 (Int32.toNatClampNeg (x3 + (4 : Int32)))) (sc.1 (Int32.toNatClampNeg (x3 + (5 : Int32))))).bind fun (r166, h167) => if r159 = r166 then ((W_law_j1643 sc x3 h167)) else (((W_law_j710 sc h167).map Sum.inr))) else none) else none) else none) else none) else none) else none) else none) else none) else none) else none) else (if ((sc.1 (Int32.toNatClampNeg x3)) &&& (31 : Int32)) = (12 : Int32) then (if inb (x3 + (1 : Int32)) sc.2 then (if inb (x3 + (2 : Int32)) sc.2 then (if inb (x3 + (3 : Int32)) sc.2 then (if inb (x3 + (4 : Int32)) sc.2 then (if inb (x3 + (5 : Int32)) sc.2 then (if inb (x3 + (6 : Int32)) sc.2 then ((K_comes h (sc.1 (Int32.toNatClampNeg (x3 + (1 : Int32)))) (sc.1 (Int32.toNatClampNeg (x3 + (2 : Int32)))) (sc.1 (Int32.toNatClampNeg (x3 + (3 : Int32)))) (sc.1 (Int32.toNatClampNeg (x3 + (4 : Int32)))) (sc.1 (Int32.toNatClampNeg (x3 + (5 : Int32)))) (sc.1 (Int32.toNatClampNeg (x3 + (6 : Int32))))).bind fun (r176, h177) => if inb (x3 + (1 : Int32)) sc.2 then (if inb (x3 + (2 : Int32)) sc.2 then (if inb (x3 + (3 : Int32)) sc.2 then (if inb (x3 + (4 : Int32)) sc.2 then (if inb (x3 + (5 : Int32)) sc.2 then (if inb (x3 + (6 : Int32)) sc.2 then ((M_comes h177 (sc.1 (Int32.toNatClampNeg (x3 + (1 : Int32)))) (sc.1 (Int32.toNatClampNeg (x3 + (2 : Int32)))) (sc.1 (Int32.toNatClampNeg (x3 + (3 : Int32)))) (sc.1 (Int32.toNatClampNeg (x3 + (4 : Int32)))) (sc.1 (Int32.toNatClampNeg (x3 + (5 : Int32)))) (sc.1 (Int32.toNatClampNeg (x3 + (6 : Int32))))).bind fun (r184, h185) => if r176 = r184 then ((W_law_j1643 sc x3 h185)) else (((W_law_j785 sc h185).map Sum.inr))) else none) else none) else none) else none) else none) else none) else none) else none) else none) else none) else none) else none) else (if ((sc.1 (Int32.toNatClampNeg x3)) &&& (31 : Int32)) = (13 : Int32) then (if inb (x3 + (1 : Int32)) sc.2 then (if inb (x3 + (2 : Int32)) sc.2 then (if inb (x3 + (3 : Int32)) sc.2 then (if inb (x3 + (4 : Int32)) sc.2 then (if inb (x3 + (5 : Int32)) sc.2 then ((K_cuts h (sc.1 (Int32.toNatClampNeg (x3 + (1 : Int32)))) (sc.1 (Int32.toNatClampNeg (x3 + (2 : Int32)))) (sc.1 (Int32.toNatClampNeg (x3 + (3 : Int32)))) (sc.1 (Int32.toNatClampNeg (x3 + (4 : Int32)))) (sc.1 (Int32.toNatClampNeg (x3 + (5 : Int32))))).bind fun (r193, h194) => if inb (x3 + (1 : Int32)) sc.2 then (if inb (x3 + (2 : Int32)) sc.2 then (if inb (x3 + (3 : Int32)) sc.2 then (if inb (x3 + (4 : Int32)) sc.2 then (if inb (x3 + (5 : Int32)) sc.2 then ((M_cuts h194 (sc.1 (Int32.toNatClampNeg (x3 + (1 : Int32)))) (sc.1 (Int32.toNatClampNeg (x3 + (2 : Int32)))) (sc.1 (Int32.toNatClampNeg (x3 + (3 : Int32)))) (sc.1 (Int32.toNatClampNeg (x3 + (4 : Int32)))) (sc.1 (Int32.toNatClampNeg (x3 + (5 : Int32))))).bind fun (r200, h201) => if r193 = r200 then ((W_law_j1643 sc x3 h201)) else (((W_law_j848 sc h201).map Sum.inr))) else none) else none) else none) else none) else none) else none) else none) else none) else none) else none) else (if ((sc.1 (Int32.toNatClampNeg x3)) &&& (31 : Int32)) = (14 : Int32) then (if inb (x3 + (1 : Int32)) sc.2 then (if inb (x3 + (2 : Int32)) sc.2 then ((K_heard h (sc.1 (Int32.toNatClampNeg (x3 + (1 : Int32)))) (sc.1 (Int32.toNatClampNeg (x3 + (2 : Int32))))).bind fun r206 => if inb (x3 + (1 : Int32)) sc.2 then (if inb (x3 + (2 : Int32)) sc.2 then ((M_heard h (sc.1 (Int32.toNatClampNeg (x3 + (1 : Int32)))) (sc.1 (Int32.toNatClampNeg (x3 + (2 : Int32))))).bind fun (r209, h210) => if r206 = r209 then ((W_law_j1643 sc x3 h210)) else (((W_law_j881 sc h210).map Sum.inr))) else none) else none) else none) else none) else (if ((sc.1 (Int32.toNatClampNeg x3)) &&& (31 : Int32)) = (15 : Int32) then (if inb (x3 + (1 : Int32)) sc.2 then (if inb (x3 + (2 : Int32)) sc.2 then (if inb (x3 + (3 : Int32)) sc.2 then (if inb (x3 + (4 : Int32)) sc.2 then ((K_fits h (sc.1 (Int32.toNatClampNeg (x3 + (1 : Int32)))) (sc.1 (Int32.toNatClampNeg (x3 + (2 : Int32)))) (sc.1 (Int32.toNatClampNeg (x3 + (3 : Int32)))) (sc.1 (Int32.toNatClampNeg (x3 + (4 : Int32))))).bind fun (r217, h218) => if inb (x3 + (1 : Int32)) sc.2 then (if inb (x3 + (2 : Int32)) sc.2 then (if inb (x3 + (3 : Int32)) sc.2 then (if inb (x3 + (4 : Int32)) sc.2 then ((M_fits h218 (sc.1 (Int32.toNatClampNeg (x3 + (1 : Int32)))) (sc.1 (Int32.toNatClampNeg (x3 + (2 : Int32)))) (sc.1 (Int32.toNatClampNeg (x3 + (3 : Int32)))) (sc.1 (Int32.toNatClampNeg (x3 + (4 : Int32))))).bind fun (r223, h224) => if r217 = r223 then ((W_law_j1643 sc x3 h224)) else (((W_law_j934 sc h224).map Sum.inr))) else none) else none) else none) else none) else none) else none) else none) else none) else (if ((sc.1 (Int32.toNatClampNeg x3)) &&& (31 : Int32)) = (16 : Int32) then (if inb (x3 + (1 : Int32)) sc.2 then (if inb (x3 + (2 : Int32)) sc.2 then (if inb (x3 + (3 : Int32)) sc.2 then (if inb (x3 + (4 : Int32)) sc.2 then (if inb (x3 + (5 : Int32)) sc.2 then (if inb (x3 + (6 : Int32)) sc.2 then (if inb (x3 + (7 : Int32)) sc.2 then ((K_gain h (sc.1 (Int32.toNatClampNeg (x3 + (1 : Int32)))) (sc.1 (Int32.toNatClampNeg (x3 + (2 : Int32)))) (sc.1 (Int32.toNatClampNeg (x3 + (3 : Int32)))) (sc.1 (Int32.toNatClampNeg (x3 + (4 : Int32)))) (sc.1 (Int32.toNatClampNeg (x3 + (5 : Int32)))) (sc.1 (Int32.toNatClampNeg (x3 + (6 : Int32)))) (sc.1 (Int32.toNatClampNeg (x3 + (7 : Int32))))).bind fun (r234, h235) => if inb (x3 + (1 : Int32)) sc.2 then (if inb (x3 + (2 : Int32)) sc.2 then (if inb (x3 + (3 : Int32)) sc.2 then (if inb (x3 + (4 : Int32)) sc.2 then (if inb (x3 + (5 : Int32)) sc.2 then (if inb (x3 + (6 : Int32)) sc.2 then (if inb (x3 + (7 : Int32)) sc.2 then ((M_gain h235 (sc.1 (Int32.toNatClampNeg (x3 + (1 : Int32)))) (sc.1 (Int32.toNatClampNeg (x3 + (2 : Int32)))) (sc.1 (Int32.toNatClampNeg (x3 + (3 : Int32)))) (sc.1 (Int32.toNatClampNeg (x3 + (4 : Int32)))) (sc.1 (Int32.toNatClampNeg (x3 + (5 : Int32)))) (sc.1 (Int32.toNatClampNeg (x3 + (6 : Int32)))) (sc.1 (Int32.toNatClampNeg (x3 + (7 : Int32))))).bind fun (r243, h244) => if r234 = r243 then ((W_law_j1643 sc x3 h244)) else (((W_law_j1021 sc h244).map Sum.inr))) else none) else none) else none) else none) else none) else none) else none) else none) else none) else none) else none) else none) else none) else none) else (if ((sc.1 (Int32.toNatClampNeg x3)) &&& (31 : Int32)) = (17 : Int32) then (if inb (x3 + (1 : Int32)) sc.2 then (if inb (x3 + (2 : Int32)) sc.2 then (if inb (x3 + (3 : Int32)) sc.2 then (if inb (x3 + (4 : Int32)) sc.2 then (if inb (x3 + (5 : Int32)) sc.2 then (if inb (x3 + (6 : Int32)) sc.2 then ((K_rest h (sc.1 (Int32.toNatClampNeg (x3 + (1 : Int32)))) (sc.1 (Int32.toNatClampNeg (x3 + (2 : Int32)))) (sc.1 (Int32.toNatClampNeg (x3 + (3 : Int32)))) (sc.1 (Int32.toNatClampNeg (x3 + (4 : Int32)))) (sc.1 (Int32.toNatClampNeg (x3 + (5 : Int32)))) (sc.1 (Int32.toNatClampNeg (x3 + (6 : Int32))))).bind fun (r253, h254) => if inb (x3 + (1 : Int32)) sc.2 then (if inb (x3 + (2 : Int32)) sc.2 then (if inb (x3 + (3 : Int32)) sc.2 then (if inb (x3 + (4 : Int32)) sc.2 then (if inb (x3 + (5 : Int32)) sc.2 then (if inb (x3 + (6 : Int32)) sc.2 then ((M_rest h254 (sc.1 (Int32.toNatClampNeg (x3 + (1 : Int32)))) (sc.1 (Int32.toNatClampNeg (x3 + (2 : Int32)))) (sc.1 (Int32.toNatClampNeg (x3 + (3 : Int32)))) (sc.1 (Int32.toNatClampNeg (x3 + (4 : Int32)))) (sc.1 (Int32.toNatClampNeg (x3 + (5 : Int32)))) (sc.1 (Int32.toNatClampNeg (x3 + (6 : Int32))))).bind fun (r261, h262) => if r253 = r261 then ((W_law_j1643 sc x3 h262)) else (((W_law_j1096 sc h262).map Sum.inr))) else none) else none) else none) else none) else none) else none) else none) else none) else none) else none) else none) else none) else (if ((sc.1 (Int32.toNatClampNeg x3)) &&& (31 : Int32)) = (18 : Int32) then (if inb (x3 + (1 : Int32)) sc.2 then (if inb (x3 + (2 : Int32)) sc.2 then (if inb (x3 + (3 : Int32)) sc.2 then (if inb (x3 + (4 : Int32)) sc.2 then (if inb (x3 + (5 : Int32)) sc.2 then (if (sc.1 (Int32.toNatClampNeg (x3 + (5 : Int32)))) = 0 then ((W_law_j1132 sc x3 (sc.1 (Int32.toNatClampNeg (x3 + (1 : Int32)))) (sc.1 (Int32.toNatClampNeg (x3 + (2 : Int32)))) (sc.1 (Int32.toNatClampNeg (x3 + (3 : Int32)))) (sc.1 (Int32.toNatClampNeg (x3 + (4 : Int32)))) (0 : Int32) h)) else ((W_law_j1132 sc x3 (sc.1 (Int32.toNatClampNeg (x3 + (1 : Int32)))) (sc.1 (Int32.toNatClampNeg (x3 + (2 : Int32)))) (sc.1 (Int32.toNatClampNeg (x3 + (3 : Int32)))) (sc.1 (Int32.toNatClampNeg (x3 + (4 : Int32)))) (1 : Int32) h))) else none) else none) else none) else none) else none) else (if ((sc.1 (Int32.toNatClampNeg x3)) &&& (31 : Int32)) = (19 : Int32) then (if inb (x3 + (1 : Int32)) sc.2 then (if inb (x3 + (2 : Int32)) sc.2 then (if (sc.1 (Int32.toNatClampNeg (x3 + (2 : Int32)))) = 0 then ((W_law_j1196 sc x3 (sc.1 (Int32.toNatClampNeg (x3 + (1 : Int32)))) (0 : Int32) h)) else ((W_law_j1196 sc x3 (sc.1 (Int32.toNatClampNeg (x3 + (1 : Int32)))) (1 : Int32) h))) else none) else none) else (if ((sc.1 (Int32.toNatClampNeg x3)) &&& (31 : Int32)) = (20 : Int32) then (if inb (x3 + (1 : Int32)) sc.2 then (if inb (x3 + (2 : Int32)) sc.2 then (if inb (x3 + (3 : Int32)) sc.2 then (if inb (x3 + (4 : Int32)) sc.2 then ((K_drawn h (sc.1 (Int32.toNatClampNeg (x3 + (1 : Int32)))) (sc.1 (Int32.toNatClampNeg (x3 + (2 : Int32)))) (sc.1 (Int32.toNatClampNeg (x3 + (3 : Int32)))) (sc.1 (Int32.toNatClampNeg (x3 + (4 : Int32))))).bind fun (r280, h281) => if inb (x3 + (1 : Int32)) sc.2 then (if inb (x3 + (2 : Int32)) sc.2 then (if inb (x3 + (3 : Int32)) sc.2 then (if inb (x3 + (4 : Int32)) sc.2 then ((M_drawn h281 (sc.1 (Int32.toNatClampNeg (x3 + (1 : Int32)))) (sc.1 (Int32.toNatClampNeg (x3 + (2 : Int32)))) (sc.1 (Int32.toNatClampNeg (x3 + (3 : Int32)))) (sc.1 (Int32.toNatClampNeg (x3 + (4 : Int32))))).bind fun (r286, h287) => if r280 = r286 then ((W_law_j1643 sc x3 h287)) else (((W_law_j1277 sc h287).map Sum.inr))) else none) else none) else none) else none) else none) else none) else none) else none) else (if ((sc.1 (Int32.toNatClampNeg x3)) &&& (31 : Int32)) = (21 : Int32) then (if inb (x3 + (1 : Int32)) sc.2 then (if inb (x3 + (2 : Int32)) sc.2 then (if inb (x3 + (3 : Int32)) sc.2 then (if inb (x3 + (4 : Int32)) sc.2 then (if inb (x3 + (5 : Int32)) sc.2 then ((K_met h (sc.1 (Int32.toNatClampNeg (x3 + (1 : Int32)))) (sc.1 (Int32.toNatClampNeg (x3 + (2 : Int32)))) (sc.1 (Int32.toNatClampNeg (x3 + (3 : Int32)))) (sc.1 (Int32.toNatClampNeg (x3 + (4 : Int32)))) (sc.1 (Int32.toNatClampNeg (x3 + (5 : Int32))))).bind fun (r295, h296) => if inb (x3 + (1 : Int32)) sc.2 then (if inb (x3 + (2 : Int32)) sc.2 then (if inb (x3 + (3 : Int32)) sc.2 then (if inb (x3 + (4 : Int32)) sc.2 then (if inb (x3 + (5 : Int32)) sc.2 then ((M_met h296 (sc.1 (Int32.toNatClampNeg (x3 + (1 : Int32)))) (sc.1 (Int32.toNatClampNeg (x3 + (2 : Int32)))) (sc.1 (Int32.toNatClampNeg (x3 + (3 : Int32)))) (sc.1 (Int32.toNatClampNeg (x3 + (4 : Int32)))) (sc.1 (Int32.toNatClampNeg (x3 + (5 : Int32))))).bind fun (r302, h303) => if r295 = r302 then ((W_law_j1643 sc x3 h303)) else (((W_law_j1340 sc h303).map Sum.inr))) else none) else none) else none) else none) else none) else none) else none) else none) else none) else none) else (if ((sc.1 (Int32.toNatClampNeg x3)) &&& (31 : Int32)) = (22 : Int32) then (if inb (x3 + (1 : Int32)) sc.2 then (if inb (x3 + (2 : Int32)) sc.2 then (if inb (x3 + (3 : Int32)) sc.2 then (if inb (x3 + (4 : Int32)) sc.2 then ((K_ghosts h (sc.1 (Int32.toNatClampNeg (x3 + (1 : Int32)))) (sc.1 (Int32.toNatClampNeg (x3 + (2 : Int32)))) (sc.1 (Int32.toNatClampNeg (x3 + (3 : Int32)))) (sc.1 (Int32.toNatClampNeg (x3 + (4 : Int32))))).bind fun (r310, h311) => if inb (x3 + (1 : Int32)) sc.2 then (if inb (x3 + (2 : Int32)) sc.2 then (if inb (x3 + (3 : Int32)) sc.2 then (if inb (x3 + (4 : Int32)) sc.2 then ((M_ghosts h311 (sc.1 (Int32.toNatClampNeg (x3 + (1 : Int32)))) (sc.1 (Int32.toNatClampNeg (x3 + (2 : Int32)))) (sc.1 (Int32.toNatClampNeg (x3 + (3 : Int32)))) (sc.1 (Int32.toNatClampNeg (x3 + (4 : Int32))))).bind fun (r316, h317) => if r310 = r316 then ((W_law_j1643 sc x3 h317)) else (((W_law_j1393 sc h317).map Sum.inr))) else none) else none) else none) else none) else none) else none) else none) else none) else (if ((sc.1 (Int32.toNatClampNeg x3)) &&& (31 : Int32)) = (23 : Int32) then (if inb (x3 + (1 : Int32)) sc.2 then (if inb (x3 + (2 : Int32)) sc.2 then (if inb (x3 + (3 : Int32)) sc.2 then (if inb (x3 + (4 : Int32)) sc.2 then (if inb (x3 + (5 : Int32)) sc.2 then ((K_forgets h (sc.1 (Int32.toNatClampNeg (x3 + (1 : Int32)))) (sc.1 (Int32.toNatClampNeg (x3 + (2 : Int32)))) (sc.1 (Int32.toNatClampNeg (x3 + (3 : Int32)))) (sc.1 (Int32.toNatClampNeg (x3 + (4 : Int32)))) (sc.1 (Int32.toNatClampNeg (x3 + (5 : Int32))))).bind fun (r325, h326) => if inb (x3 + (1 : Int32)) sc.2 then (if inb (x3 + (2 : Int32)) sc.2 then (if inb (x3 + (3 : Int32)) sc.2 then (if inb (x3 + (4 : Int32)) sc.2 then (if inb (x3 + (5 : Int32)) sc.2 then ((M_forgets h326 (sc.1 (Int32.toNatClampNeg (x3 + (1 : Int32)))) (sc.1 (Int32.toNatClampNeg (x3 + (2 : Int32)))) (sc.1 (Int32.toNatClampNeg (x3 + (3 : Int32)))) (sc.1 (Int32.toNatClampNeg (x3 + (4 : Int32)))) (sc.1 (Int32.toNatClampNeg (x3 + (5 : Int32))))).bind fun (r332, h333) => if r325 = r332 then ((W_law_j1643 sc x3 h333)) else (((W_law_j1456 sc h333).map Sum.inr))) else none) else none) else none) else none) else none) else none) else none) else none) else none) else none) else (if ((sc.1 (Int32.toNatClampNeg x3)) &&& (31 : Int32)) = (24 : Int32) then (if inb (x3 + (1 : Int32)) sc.2 then (if inb (x3 + (2 : Int32)) sc.2 then (if inb (x3 + (3 : Int32)) sc.2 then (if inb (x3 + (4 : Int32)) sc.2 then (if inb (x3 + (5 : Int32)) sc.2 then ((K_spy h (sc.1 (Int32.toNatClampNeg (x3 + (1 : Int32)))) (sc.1 (Int32.toNatClampNeg (x3 + (2 : Int32)))) (sc.1 (Int32.toNatClampNeg (x3 + (3 : Int32)))) (sc.1 (Int32.toNatClampNeg (x3 + (4 : Int32)))) (sc.1 (Int32.toNatClampNeg (x3 + (5 : Int32))))).bind fun (r341, h342) => if inb (x3 + (1 : Int32)) sc.2 then (if inb (x3 + (2 : Int32)) sc.2 then (if inb (x3 + (3 : Int32)) sc.2 then (if inb (x3 + (4 : Int32)) sc.2 then (if inb (x3 + (5 : Int32)) sc.2 then ((M_spy h342 (sc.1 (Int32.toNatClampNeg (x3 + (1 : Int32)))) (sc.1 (Int32.toNatClampNeg (x3 + (2 : Int32)))) (sc.1 (Int32.toNatClampNeg (x3 + (3 : Int32)))) (sc.1 (Int32.toNatClampNeg (x3 + (4 : Int32)))) (sc.1 (Int32.toNatClampNeg (x3 + (5 : Int32))))).bind fun (r348, h349) => if r341 = r348 then ((W_law_j1643 sc x3 h349)) else (((W_law_j1519 sc h349).map Sum.inr))) else none) else none) else none) else none) else none) else none) else none) else none) else none) else none) else (if ((sc.1 (Int32.toNatClampNeg x3)) &&& (31 : Int32)) = (25 : Int32) then (if inb (x3 + (1 : Int32)) sc.2 then (if inb (x3 + (2 : Int32)) sc.2 then (if inb (x3 + (3 : Int32)) sc.2 then (if inb (x3 + (4 : Int32)) sc.2 then ((K_weddings h (sc.1 (Int32.toNatClampNeg (x3 + (1 : Int32)))) (sc.1 (Int32.toNatClampNeg (x3 + (2 : Int32)))) (sc.1 (Int32.toNatClampNeg (x3 + (3 : Int32)))) (sc.1 (Int32.toNatClampNeg (x3 + (4 : Int32))))).bind fun (r356, h357) => if inb (x3 + (1 : Int32)) sc.2 then (if inb (x3 + (2 : Int32)) sc.2 then (if inb (x3 + (3 : Int32)) sc.2 then (if inb (x3 + (4 : Int32)) sc.2 then ((M_weddings h357 (sc.1 (Int32.toNatClampNeg (x3 + (1 : Int32)))) (sc.1 (Int32.toNatClampNeg (x3 + (2 : Int32)))) (sc.1 (Int32.toNatClampNeg (x3 + (3 : Int32)))) (sc.1 (Int32.toNatClampNeg (x3 + (4 : Int32))))).bind fun (r362, h363) => if r356 = r362 then ((W_law_j1643 sc x3 h363)) else (((W_law_j1572 sc h363).map Sum.inr))) else none) else none) else none) else none) else none) else none) else none) else none) else (if ((sc.1 (Int32.toNatClampNeg x3)) &&& (31 : Int32)) = (26 : Int32) then (if inb (x3 + (1 : Int32)) sc.2 then ((K_count h (sc.1 (Int32.toNatClampNeg (x3 + (1 : Int32))))).bind fun r367 => if inb (x3 + (1 : Int32)) sc.2 then ((M_count h (sc.1 (Int32.toNatClampNeg (x3 + (1 : Int32))))).bind fun (r369, h370) => if r367 = r369 then ((W_law_j1643 sc x3 h370)) else (((W_law_j1595 sc h370).map Sum.inr))) else none) else none) else (if ((sc.1 (Int32.toNatClampNeg x3)) &&& (31 : Int32)) = (27 : Int32) then (if inb (x3 + (1 : Int32)) sc.2 then ((K_image h (sc.1 (Int32.toNatClampNeg (x3 + (1 : Int32))))).bind fun (r374, h375) => if inb (x3 + (1 : Int32)) sc.2 then ((M_image h375 (sc.1 (Int32.toNatClampNeg (x3 + (1 : Int32))))).bind fun (r377, h378) => if r374 = r377 then ((W_law_j1643 sc x3 h378)) else (((W_law_j1618 sc h378).map Sum.inr))) else none) else none) else (if ((sc.1 (Int32.toNatClampNeg x3)) &&& (31 : Int32)) = (28 : Int32) then (if inb (x3 + (1 : Int32)) sc.2 then ((K_again h (sc.1 (Int32.toNatClampNeg (x3 + (1 : Int32))))).bind fun (r382, h383) => if inb (x3 + (1 : Int32)) sc.2 then ((M_again h383 (sc.1 (Int32.toNatClampNeg (x3 + (1 : Int32))))).bind fun (r385, h386) => if r382 = r385 then ((W_law_j1643 sc x3 h386)) else (((W_law_j1641 sc h386).map Sum.inr))) else none) else none) else ((W_law_j1643 sc x3 h))))))))))))))))))))))))))))))) else none)
noncomputable def W_law_l18 (sc : Sc) (x3 : Int32) (h : Hp) : Option (Int32 × Hp) := lp (fun s : (Int32 × Hp) => W_law_b18 sc s.1 s.2) (x3, h)
theorem W_law_l18_eq (sc : Sc) (x3 : Int32) (h : Hp) : W_law_l18 sc x3 h = (W_law_b18 sc x3 h).bind (Sum.elim (fun q : (Int32 × Hp) => W_law_l18 sc q.1 q.2) some) := lp_eq _ _
noncomputable def W_law (sc : Sc) (h : Hp) : Option (Int32 × Hp) := (W_law_l18 sc (0 : Int32) h)
set_option maxRecDepth 100000 in
set_option maxHeartbeats 4000000 in
theorem c_W_law {E : En} {d : Nat} {G : GT} {P : (Int32 × Hp) → Prop} {h : Hp} (hG : Rl E (d + 16) 13 z_W_law (RI P) G) (hO : Okk (W_law (eS E) h) P) : G 16 [(0, .ref 300), (1, .ref 1), (2, .ref 251)] [] h := by
  unfold W_law at hO
  have j1649 : ∀ (h : Hp), Okk (W_law_j1649 (eS E) h) P → G 1649 [] [] h := by
    intro h hO
    unfold W_law_j1649 at hO
    refine rb hG 4 1649 1650 [.ldc_w 0] [1] [] [] [.int (1 : Int32)] h [] (by decide +kernel) rfl trivial ?_
    exact eZ hG 1650 (by decide +kernel) rfl (Or.inr rfl) ⟨(1 : Int32), rfl, ok_some (Q := P) hO⟩
  have j225 : ∀ (h : Hp), Okk (W_law_j225 (eS E) h) P → G 225 [] [] h := by
    intro h hO
    unfold W_law_j225 at hO
    refine rb hG 4 225 226 [.ldc_w 0] [0] [] [] [.int (0 : Int32)] h [] (by decide +kernel) rfl trivial ?_
    exact eZ hG 226 (by decide +kernel) rfl (Or.inl rfl) ⟨(0 : Int32), rfl, ok_some (Q := P) hO⟩
  have j248 : ∀ (h : Hp), Okk (W_law_j248 (eS E) h) P → G 248 [] [] h := by
    intro h hO
    unfold W_law_j248 at hO
    refine rb hG 4 248 249 [.ldc_w 0] [0] [] [] [.int (0 : Int32)] h [] (by decide +kernel) rfl trivial ?_
    exact eZ hG 249 (by decide +kernel) rfl (Or.inl rfl) ⟨(0 : Int32), rfl, ok_some (Q := P) hO⟩
  have j281 : ∀ (h : Hp), Okk (W_law_j281 (eS E) h) P → G 281 [] [] h := by
    intro h hO
    unfold W_law_j281 at hO
    refine rb hG 4 281 282 [.ldc_w 0] [0] [] [] [.int (0 : Int32)] h [] (by decide +kernel) rfl trivial ?_
    exact eZ hG 282 (by decide +kernel) rfl (Or.inl rfl) ⟨(0 : Int32), rfl, ok_some (Q := P) hO⟩
  have j304 : ∀ (h : Hp), Okk (W_law_j304 (eS E) h) P → G 304 [] [] h := by
    intro h hO
    unfold W_law_j304 at hO
    refine rb hG 4 304 305 [.ldc_w 0] [0] [] [] [.int (0 : Int32)] h [] (by decide +kernel) rfl trivial ?_
    exact eZ hG 305 (by decide +kernel) rfl (Or.inl rfl) ⟨(0 : Int32), rfl, ok_some (Q := P) hO⟩
  have j337 : ∀ (h : Hp), Okk (W_law_j337 (eS E) h) P → G 337 [] [] h := by
    intro h hO
    unfold W_law_j337 at hO
    refine rb hG 4 337 338 [.ldc_w 0] [0] [] [] [.int (0 : Int32)] h [] (by decide +kernel) rfl trivial ?_
    exact eZ hG 338 (by decide +kernel) rfl (Or.inl rfl) ⟨(0 : Int32), rfl, ok_some (Q := P) hO⟩
  have j380 : ∀ (h : Hp), Okk (W_law_j380 (eS E) h) P → G 380 [] [] h := by
    intro h hO
    unfold W_law_j380 at hO
    refine rb hG 4 380 381 [.ldc_w 0] [0] [] [] [.int (0 : Int32)] h [] (by decide +kernel) rfl trivial ?_
    exact eZ hG 381 (by decide +kernel) rfl (Or.inl rfl) ⟨(0 : Int32), rfl, ok_some (Q := P) hO⟩
  have j413 : ∀ (h : Hp), Okk (W_law_j413 (eS E) h) P → G 413 [] [] h := by
    intro h hO
    unfold W_law_j413 at hO
    refine rb hG 4 413 414 [.ldc_w 0] [0] [] [] [.int (0 : Int32)] h [] (by decide +kernel) rfl trivial ?_
    exact eZ hG 414 (by decide +kernel) rfl (Or.inl rfl) ⟨(0 : Int32), rfl, ok_some (Q := P) hO⟩
  have j466 : ∀ (h : Hp), Okk (W_law_j466 (eS E) h) P → G 466 [] [] h := by
    intro h hO
    unfold W_law_j466 at hO
    refine rb hG 4 466 467 [.ldc_w 0] [0] [] [] [.int (0 : Int32)] h [] (by decide +kernel) rfl trivial ?_
    exact eZ hG 467 (by decide +kernel) rfl (Or.inl rfl) ⟨(0 : Int32), rfl, ok_some (Q := P) hO⟩
  have j529 : ∀ (h : Hp), Okk (W_law_j529 (eS E) h) P → G 529 [] [] h := by
    intro h hO
    unfold W_law_j529 at hO
    refine rb hG 4 529 530 [.ldc_w 0] [0] [] [] [.int (0 : Int32)] h [] (by decide +kernel) rfl trivial ?_
    exact eZ hG 530 (by decide +kernel) rfl (Or.inl rfl) ⟨(0 : Int32), rfl, ok_some (Q := P) hO⟩
  have j604 : ∀ (h : Hp), Okk (W_law_j604 (eS E) h) P → G 604 [] [] h := by
    intro h hO
    unfold W_law_j604 at hO
    refine rb hG 4 604 605 [.ldc_w 0] [0] [] [] [.int (0 : Int32)] h [] (by decide +kernel) rfl trivial ?_
    exact eZ hG 605 (by decide +kernel) rfl (Or.inl rfl) ⟨(0 : Int32), rfl, ok_some (Q := P) hO⟩
  have j647 : ∀ (h : Hp), Okk (W_law_j647 (eS E) h) P → G 647 [] [] h := by
    intro h hO
    unfold W_law_j647 at hO
    refine rb hG 4 647 648 [.ldc_w 0] [0] [] [] [.int (0 : Int32)] h [] (by decide +kernel) rfl trivial ?_
    exact eZ hG 648 (by decide +kernel) rfl (Or.inl rfl) ⟨(0 : Int32), rfl, ok_some (Q := P) hO⟩
  have j710 : ∀ (h : Hp), Okk (W_law_j710 (eS E) h) P → G 710 [] [] h := by
    intro h hO
    unfold W_law_j710 at hO
    refine rb hG 4 710 711 [.ldc_w 0] [0] [] [] [.int (0 : Int32)] h [] (by decide +kernel) rfl trivial ?_
    exact eZ hG 711 (by decide +kernel) rfl (Or.inl rfl) ⟨(0 : Int32), rfl, ok_some (Q := P) hO⟩
  have j785 : ∀ (h : Hp), Okk (W_law_j785 (eS E) h) P → G 785 [] [] h := by
    intro h hO
    unfold W_law_j785 at hO
    refine rb hG 4 785 786 [.ldc_w 0] [0] [] [] [.int (0 : Int32)] h [] (by decide +kernel) rfl trivial ?_
    exact eZ hG 786 (by decide +kernel) rfl (Or.inl rfl) ⟨(0 : Int32), rfl, ok_some (Q := P) hO⟩
  have j848 : ∀ (h : Hp), Okk (W_law_j848 (eS E) h) P → G 848 [] [] h := by
    intro h hO
    unfold W_law_j848 at hO
    refine rb hG 4 848 849 [.ldc_w 0] [0] [] [] [.int (0 : Int32)] h [] (by decide +kernel) rfl trivial ?_
    exact eZ hG 849 (by decide +kernel) rfl (Or.inl rfl) ⟨(0 : Int32), rfl, ok_some (Q := P) hO⟩
  have j881 : ∀ (h : Hp), Okk (W_law_j881 (eS E) h) P → G 881 [] [] h := by
    intro h hO
    unfold W_law_j881 at hO
    refine rb hG 4 881 882 [.ldc_w 0] [0] [] [] [.int (0 : Int32)] h [] (by decide +kernel) rfl trivial ?_
    exact eZ hG 882 (by decide +kernel) rfl (Or.inl rfl) ⟨(0 : Int32), rfl, ok_some (Q := P) hO⟩
  have j934 : ∀ (h : Hp), Okk (W_law_j934 (eS E) h) P → G 934 [] [] h := by
    intro h hO
    unfold W_law_j934 at hO
    refine rb hG 4 934 935 [.ldc_w 0] [0] [] [] [.int (0 : Int32)] h [] (by decide +kernel) rfl trivial ?_
    exact eZ hG 935 (by decide +kernel) rfl (Or.inl rfl) ⟨(0 : Int32), rfl, ok_some (Q := P) hO⟩
  have j1021 : ∀ (h : Hp), Okk (W_law_j1021 (eS E) h) P → G 1021 [] [] h := by
    intro h hO
    unfold W_law_j1021 at hO
    refine rb hG 4 1021 1022 [.ldc_w 0] [0] [] [] [.int (0 : Int32)] h [] (by decide +kernel) rfl trivial ?_
    exact eZ hG 1022 (by decide +kernel) rfl (Or.inl rfl) ⟨(0 : Int32), rfl, ok_some (Q := P) hO⟩
  have j1096 : ∀ (h : Hp), Okk (W_law_j1096 (eS E) h) P → G 1096 [] [] h := by
    intro h hO
    unfold W_law_j1096 at hO
    refine rb hG 4 1096 1097 [.ldc_w 0] [0] [] [] [.int (0 : Int32)] h [] (by decide +kernel) rfl trivial ?_
    exact eZ hG 1097 (by decide +kernel) rfl (Or.inl rfl) ⟨(0 : Int32), rfl, ok_some (Q := P) hO⟩
  have j1175 : ∀ (h : Hp), Okk (W_law_j1175 (eS E) h) P → G 1175 [] [] h := by
    intro h hO
    unfold W_law_j1175 at hO
    refine rb hG 4 1175 1176 [.ldc_w 0] [0] [] [] [.int (0 : Int32)] h [] (by decide +kernel) rfl trivial ?_
    exact eZ hG 1176 (by decide +kernel) rfl (Or.inl rfl) ⟨(0 : Int32), rfl, ok_some (Q := P) hO⟩
  have j1224 : ∀ (h : Hp), Okk (W_law_j1224 (eS E) h) P → G 1224 [] [] h := by
    intro h hO
    unfold W_law_j1224 at hO
    refine rb hG 4 1224 1225 [.ldc_w 0] [0] [] [] [.int (0 : Int32)] h [] (by decide +kernel) rfl trivial ?_
    exact eZ hG 1225 (by decide +kernel) rfl (Or.inl rfl) ⟨(0 : Int32), rfl, ok_some (Q := P) hO⟩
  have j1277 : ∀ (h : Hp), Okk (W_law_j1277 (eS E) h) P → G 1277 [] [] h := by
    intro h hO
    unfold W_law_j1277 at hO
    refine rb hG 4 1277 1278 [.ldc_w 0] [0] [] [] [.int (0 : Int32)] h [] (by decide +kernel) rfl trivial ?_
    exact eZ hG 1278 (by decide +kernel) rfl (Or.inl rfl) ⟨(0 : Int32), rfl, ok_some (Q := P) hO⟩
  have j1340 : ∀ (h : Hp), Okk (W_law_j1340 (eS E) h) P → G 1340 [] [] h := by
    intro h hO
    unfold W_law_j1340 at hO
    refine rb hG 4 1340 1341 [.ldc_w 0] [0] [] [] [.int (0 : Int32)] h [] (by decide +kernel) rfl trivial ?_
    exact eZ hG 1341 (by decide +kernel) rfl (Or.inl rfl) ⟨(0 : Int32), rfl, ok_some (Q := P) hO⟩
  have j1393 : ∀ (h : Hp), Okk (W_law_j1393 (eS E) h) P → G 1393 [] [] h := by
    intro h hO
    unfold W_law_j1393 at hO
    refine rb hG 4 1393 1394 [.ldc_w 0] [0] [] [] [.int (0 : Int32)] h [] (by decide +kernel) rfl trivial ?_
    exact eZ hG 1394 (by decide +kernel) rfl (Or.inl rfl) ⟨(0 : Int32), rfl, ok_some (Q := P) hO⟩
  have j1456 : ∀ (h : Hp), Okk (W_law_j1456 (eS E) h) P → G 1456 [] [] h := by
    intro h hO
    unfold W_law_j1456 at hO
    refine rb hG 4 1456 1457 [.ldc_w 0] [0] [] [] [.int (0 : Int32)] h [] (by decide +kernel) rfl trivial ?_
    exact eZ hG 1457 (by decide +kernel) rfl (Or.inl rfl) ⟨(0 : Int32), rfl, ok_some (Q := P) hO⟩
  have j1519 : ∀ (h : Hp), Okk (W_law_j1519 (eS E) h) P → G 1519 [] [] h := by
    intro h hO
    unfold W_law_j1519 at hO
    refine rb hG 4 1519 1520 [.ldc_w 0] [0] [] [] [.int (0 : Int32)] h [] (by decide +kernel) rfl trivial ?_
    exact eZ hG 1520 (by decide +kernel) rfl (Or.inl rfl) ⟨(0 : Int32), rfl, ok_some (Q := P) hO⟩
  have j1572 : ∀ (h : Hp), Okk (W_law_j1572 (eS E) h) P → G 1572 [] [] h := by
    intro h hO
    unfold W_law_j1572 at hO
    refine rb hG 4 1572 1573 [.ldc_w 0] [0] [] [] [.int (0 : Int32)] h [] (by decide +kernel) rfl trivial ?_
    exact eZ hG 1573 (by decide +kernel) rfl (Or.inl rfl) ⟨(0 : Int32), rfl, ok_some (Q := P) hO⟩
  have j1595 : ∀ (h : Hp), Okk (W_law_j1595 (eS E) h) P → G 1595 [] [] h := by
    intro h hO
    unfold W_law_j1595 at hO
    refine rb hG 4 1595 1596 [.ldc_w 0] [0] [] [] [.int (0 : Int32)] h [] (by decide +kernel) rfl trivial ?_
    exact eZ hG 1596 (by decide +kernel) rfl (Or.inl rfl) ⟨(0 : Int32), rfl, ok_some (Q := P) hO⟩
  have j1618 : ∀ (h : Hp), Okk (W_law_j1618 (eS E) h) P → G 1618 [] [] h := by
    intro h hO
    unfold W_law_j1618 at hO
    refine rb hG 4 1618 1619 [.ldc_w 0] [0] [] [] [.int (0 : Int32)] h [] (by decide +kernel) rfl trivial ?_
    exact eZ hG 1619 (by decide +kernel) rfl (Or.inl rfl) ⟨(0 : Int32), rfl, ok_some (Q := P) hO⟩
  have j1641 : ∀ (h : Hp), Okk (W_law_j1641 (eS E) h) P → G 1641 [] [] h := by
    intro h hO
    unfold W_law_j1641 at hO
    refine rb hG 4 1641 1642 [.ldc_w 0] [0] [] [] [.int (0 : Int32)] h [] (by decide +kernel) rfl trivial ?_
    exact eZ hG 1642 (by decide +kernel) rfl (Or.inl rfl) ⟨(0 : Int32), rfl, ok_some (Q := P) hO⟩
  have l18 : ∀ (x3 : Int32) (h : Hp), Okk (W_law_l18 (eS E) x3 h) P → G 18 [(0, .ref 300), (1, .ref 1), (2, .ref 251), (3, .int x3)] [] h := by
    intro x3 h hO
    obtain ⟨H18, eH18⟩ : ∃ q : (Int32 × Hp) → Prop, q = fun s => G 18 [(0, .ref 300), (1, .ref 1), (2, .ref 251), (3, .int (s.1))] [] (s.2) := ⟨_, rfl⟩
    have w9 : H18 (x3, h) := by
      refine lp_wp (f := fun s : (Int32 × Hp) => W_law_b18 (eS E) s.1 s.2) (H := H18) (Q := P) ?_ (x3, h) hO
      rintro ⟨x3, h⟩ hO
      rw [eH18]
      show G 18 [(0, .ref 300), (1, .ref 1), (2, .ref 251), (3, .int x3)] [] h
      have k18 : ∀ s : (Int32 × Hp), H18 s → G 18 [(0, .ref 300), (1, .ref 1), (2, .ref 251), (3, .int (s.1))] [] (s.2) := fun s q => by rw [eH18] at q; exact q
      replace hO : Okk (W_law_b18 (eS E) x3 h) (Sum.elim H18 P) := hO
      clear eH18
      have j1643 : ∀ (x3 : Int32) (h : Hp), Okk (W_law_j1643 (eS E) x3 h) (Sum.elim H18 P) → G 1643 [(0, .ref 300), (1, .ref 1), (2, .ref 251), (3, .int x3)] [] h := by
        intro x3 h hO
        unfold W_law_j1643 at hO
        refine rbx hG 4 1643 1646 [.iinc 3 0] [8] [] ((x3 + (8 : Int32))) (fun y1 => [(3, .int y1), (0, .ref 300), (1, .ref 1), (2, .ref 251)]) (fun y1 => []) (fun y1 => h) [] (by decide +kernel) rfl trivial hO (fun y1 hO => ?_)
        refine rb hG 4 1646 18 [] [] [] [(3, .int y1), (0, .ref 300), (1, .ref 1), (2, .ref 251)] [] h [] (by decide +kernel) rfl trivial ?_
        refine rs hG [(0, .ref 300), (1, .ref 1), (2, .ref 251), (3, .int y1)] [1, 2, 3, 0] rfl ?_
        exact k18 (y1, h) (ok_some (Q := (Sum.elim H18 P)) hO)
      have j1169 : ∀ (x3 : Int32) (s0 : Int32) (s2 : Int32) (s3 : Int32) (s4 : Int32) (s5 : Int32) (s6 : Int32) (h : Hp), Okk (W_law_j1169 (eS E) x3 s0 s2 s3 s4 s5 s6 h) (Sum.elim H18 P) → G 1169 [(0, .ref 300), (1, .ref 1), (2, .ref 251), (3, .int x3)] [.int s6, .int s5, .int s4, .int s3, .int s2, .ref 251, .int s0] h := by
        intro x3 s0 s2 s3 s4 s5 s6 h hO
        unfold W_law_j1169 at hO
        refine rv hG z_M_whisper 96 5 1169 251 [.int s2, .int s3, .int s4, .int s5, .int s6] [.int s0] (by decide +kernel) mk_M_whisper lk_13_96 rcv_251 rfl ⟨rfl, Nat.le_of_ble_eq_true rfl⟩ (c_M_whisper (d := d + 7) h s2 s3 s4 s5 s6 (ok_bind hO)) ?_
        rintro _ h3 ⟨r2, rfl, hO⟩
        refine rj hG .eq (471) 1643 1172 (by decide +kernel) (by decide) (fun c4 => ?_) (fun c4 => ?_)
        · have hO := ok_pos c4 hO
          exact j1643 x3 h3 hO
        · have hO := ok_neg c4 hO
          refine rs hG [] [] rfl ?_
          exact j1175 h3 (ok_inr hO)
      have j1132 : ∀ (x3 : Int32) (s1 : Int32) (s2 : Int32) (s3 : Int32) (s4 : Int32) (s5 : Int32) (h : Hp), Okk (W_law_j1132 (eS E) x3 s1 s2 s3 s4 s5 h) (Sum.elim H18 P) → G 1132 [(0, .ref 300), (1, .ref 1), (2, .ref 251), (3, .int x3)] [.int s5, .int s4, .int s3, .int s2, .int s1, .ref 1] h := by
        intro x3 s1 s2 s3 s4 s5 h hO
        unfold W_law_j1132 at hO
        refine rv hG z_K_whisper 92 5 1132 1 [.int s1, .int s2, .int s3, .int s4, .int s5] [] (by decide +kernel) mk_K_whisper lk_13_92 rcv_1 rfl ⟨rfl, Nat.le_of_ble_eq_true rfl⟩ (c_K_whisper (d := d + 8) h s1 s2 s3 s4 s5 (ok_bind hO)) ?_
        rintro _ h6 ⟨r5, rfl, hO⟩
        obtain ⟨g7, hO⟩ := ok_if hO
        obtain ⟨g8, hO⟩ := ok_if hO
        obtain ⟨g9, hO⟩ := ok_if hO
        obtain ⟨g10, hO⟩ := ok_if hO
        obtain ⟨g11, hO⟩ := ok_if hO
        refine rb hG 29 1135 1161 [.aload 2, .aload 0, .iload 3, .ldc_w 0, .iadd, .faload, .aload 0, .iload 3, .ldc_w 1, .iadd, .faload, .aload 0, .iload 3, .ldc_w 2, .iadd, .faload, .aload 0, .iload 3, .ldc_w 3, .iadd, .faload, .aload 0, .iload 3, .ldc_w 4, .iadd, .faload] [1, 2, 3, 4, 5] [] [(0, .ref 300), (1, .ref 1), (2, .ref 251), (3, .int x3)] [.int ((eS E).1 (Int32.toNatClampNeg (x3 + (5 : Int32)))), .int ((eS E).1 (Int32.toNatClampNeg (x3 + (4 : Int32)))), .int ((eS E).1 (Int32.toNatClampNeg (x3 + (3 : Int32)))), .int ((eS E).1 (Int32.toNatClampNeg (x3 + (2 : Int32)))), .int ((eS E).1 (Int32.toNatClampNeg (x3 + (1 : Int32)))), .ref 251, .int r5] h6 [300 = 300 ∧ inb (x3 + (1 : Int32)) (eS E).2, 300 = 300 ∧ inb (x3 + (2 : Int32)) (eS E).2, 300 = 300 ∧ inb (x3 + (3 : Int32)) (eS E).2, 300 = 300 ∧ inb (x3 + (4 : Int32)) (eS E).2, 300 = 300 ∧ inb (x3 + (5 : Int32)) (eS E).2] (by decide +kernel) rfl ⟨⟨rfl, g7⟩, ⟨rfl, g8⟩, ⟨rfl, g9⟩, ⟨rfl, g10⟩, ⟨rfl, g11⟩⟩ ?_
        refine ri hG .eq (7) 1168 1161 (by decide +kernel) (by decide) (fun c12 => ?_) (fun c12 => ?_)
        · have hO := ok_pos c12 hO
          refine rb hG 4 1168 1169 [.ldc_w 0] [0] [] [(0, .ref 300), (1, .ref 1), (2, .ref 251), (3, .int x3)] [.int (0 : Int32), .int ((eS E).1 (Int32.toNatClampNeg (x3 + (4 : Int32)))), .int ((eS E).1 (Int32.toNatClampNeg (x3 + (3 : Int32)))), .int ((eS E).1 (Int32.toNatClampNeg (x3 + (2 : Int32)))), .int ((eS E).1 (Int32.toNatClampNeg (x3 + (1 : Int32)))), .ref 251, .int r5] h6 [] (by decide +kernel) rfl trivial ?_
          exact j1169 x3 r5 ((eS E).1 (Int32.toNatClampNeg (x3 + (1 : Int32)))) ((eS E).1 (Int32.toNatClampNeg (x3 + (2 : Int32)))) ((eS E).1 (Int32.toNatClampNeg (x3 + (3 : Int32)))) ((eS E).1 (Int32.toNatClampNeg (x3 + (4 : Int32)))) (0 : Int32) h6 hO
        · have hO := ok_neg c12 hO
          refine rb hG 5 1164 1169 [.ldc_w 0] [1] [] [(0, .ref 300), (1, .ref 1), (2, .ref 251), (3, .int x3)] [.int (1 : Int32), .int ((eS E).1 (Int32.toNatClampNeg (x3 + (4 : Int32)))), .int ((eS E).1 (Int32.toNatClampNeg (x3 + (3 : Int32)))), .int ((eS E).1 (Int32.toNatClampNeg (x3 + (2 : Int32)))), .int ((eS E).1 (Int32.toNatClampNeg (x3 + (1 : Int32)))), .ref 251, .int r5] h6 [] (by decide +kernel) rfl trivial ?_
          exact j1169 x3 r5 ((eS E).1 (Int32.toNatClampNeg (x3 + (1 : Int32)))) ((eS E).1 (Int32.toNatClampNeg (x3 + (2 : Int32)))) ((eS E).1 (Int32.toNatClampNeg (x3 + (3 : Int32)))) ((eS E).1 (Int32.toNatClampNeg (x3 + (4 : Int32)))) (1 : Int32) h6 hO
      have j1218 : ∀ (x3 : Int32) (s0 : Int32) (s2 : Int32) (s3 : Int32) (h : Hp), Okk (W_law_j1218 (eS E) x3 s0 s2 s3 h) (Sum.elim H18 P) → G 1218 [(0, .ref 300), (1, .ref 1), (2, .ref 251), (3, .int x3)] [.int s3, .int s2, .ref 251, .int s0] h := by
        intro x3 s0 s2 s3 h hO
        unfold W_law_j1218 at hO
        refine rv hG z_M_council 101 2 1218 251 [.int s2, .int s3] [.int s0] (by decide +kernel) mk_M_council lk_13_101 rcv_251 rfl ⟨rfl, Nat.le_of_ble_eq_true rfl⟩ (c_M_council (d := d + 11) h s2 s3 (ok_bind hO)) ?_
        rintro _ h14 ⟨r13, rfl, hO⟩
        refine rj hG .eq (422) 1643 1221 (by decide +kernel) (by decide) (fun c15 => ?_) (fun c15 => ?_)
        · have hO := ok_pos c15 hO
          exact j1643 x3 h14 hO
        · have hO := ok_neg c15 hO
          refine rs hG [] [] rfl ?_
          exact j1224 h14 (ok_inr hO)
      have j1196 : ∀ (x3 : Int32) (s1 : Int32) (s2 : Int32) (h : Hp), Okk (W_law_j1196 (eS E) x3 s1 s2 h) (Sum.elim H18 P) → G 1196 [(0, .ref 300), (1, .ref 1), (2, .ref 251), (3, .int x3)] [.int s2, .int s1, .ref 1] h := by
        intro x3 s1 s2 h hO
        unfold W_law_j1196 at hO
        refine rv hG z_K_council 97 2 1196 1 [.int s1, .int s2] [] (by decide +kernel) mk_K_council lk_13_97 rcv_1 rfl ⟨rfl, Nat.le_of_ble_eq_true rfl⟩ (c_K_council (d := d + 10) h s1 s2 (ok_bind hO)) ?_
        rintro _ h17 ⟨r16, rfl, hO⟩
        obtain ⟨g18, hO⟩ := ok_if hO
        obtain ⟨g19, hO⟩ := ok_if hO
        refine rb hG 14 1199 1210 [.aload 2, .aload 0, .iload 3, .ldc_w 0, .iadd, .faload, .aload 0, .iload 3, .ldc_w 1, .iadd, .faload] [1, 2] [] [(0, .ref 300), (1, .ref 1), (2, .ref 251), (3, .int x3)] [.int ((eS E).1 (Int32.toNatClampNeg (x3 + (2 : Int32)))), .int ((eS E).1 (Int32.toNatClampNeg (x3 + (1 : Int32)))), .ref 251, .int r16] h17 [300 = 300 ∧ inb (x3 + (1 : Int32)) (eS E).2, 300 = 300 ∧ inb (x3 + (2 : Int32)) (eS E).2] (by decide +kernel) rfl ⟨⟨rfl, g18⟩, ⟨rfl, g19⟩⟩ ?_
        refine ri hG .eq (7) 1217 1210 (by decide +kernel) (by decide) (fun c20 => ?_) (fun c20 => ?_)
        · have hO := ok_pos c20 hO
          refine rb hG 4 1217 1218 [.ldc_w 0] [0] [] [(0, .ref 300), (1, .ref 1), (2, .ref 251), (3, .int x3)] [.int (0 : Int32), .int ((eS E).1 (Int32.toNatClampNeg (x3 + (1 : Int32)))), .ref 251, .int r16] h17 [] (by decide +kernel) rfl trivial ?_
          exact j1218 x3 r16 ((eS E).1 (Int32.toNatClampNeg (x3 + (1 : Int32)))) (0 : Int32) h17 hO
        · have hO := ok_neg c20 hO
          refine rb hG 5 1213 1218 [.ldc_w 0] [1] [] [(0, .ref 300), (1, .ref 1), (2, .ref 251), (3, .int x3)] [.int (1 : Int32), .int ((eS E).1 (Int32.toNatClampNeg (x3 + (1 : Int32)))), .ref 251, .int r16] h17 [] (by decide +kernel) rfl trivial ?_
          exact j1218 x3 r16 ((eS E).1 (Int32.toNatClampNeg (x3 + (1 : Int32)))) (1 : Int32) h17 hO
      unfold W_law_b18 at hO
      refine rb hG 8 18 24 [.iload 3, .aload 0, .fneg, .ldc_w 0, .isub] [8] [] [(0, .ref 300), (1, .ref 1), (2, .ref 251), (3, .int x3)] [.int ((Int32.ofNat (eS E).2) - (8 : Int32)), .int x3] h [300 = 300] (by decide +kernel) rfl rfl ?_
      refine rj hG .gt (1625) 1649 24 (by decide +kernel) (by decide) (fun c21 => ?_) (fun c21 => ?_)
      · have hO := ok_pos c21 hO
        refine rs hG [] [] rfl ?_
        exact j1649 h (ok_inr hO)
      · have hO := ok_neg c21 hO
        obtain ⟨g22, hO⟩ := ok_if hO
        refine rb hG 8 27 33 [.aload 0, .iload 3, .faload, .ldc_w 0, .iand] [31] [] [(0, .ref 300), (1, .ref 1), (2, .ref 251), (3, .int x3)] [.int (((eS E).1 (Int32.toNatClampNeg x3)) &&& (31 : Int32))] h [300 = 300 ∧ inb x3 (eS E).2] (by decide +kernel) rfl ⟨rfl, g22⟩ ?_
        refine rw9 hG (1610) (0) (28) #[(131), (194), (217), (250), (273), (306), (349), (382), (435), (498), (573), (616), (679), (754), (817), (850), (903), (990), (1065), (1144), (1193), (1246), (1309), (1362), (1425), (1488), (1541), (1564), (1587)] 131 33 [164, 227, 250, 283, 306, 339, 382, 415, 468, 531, 606, 649, 712, 787, 850, 883, 936, 1023, 1098, 1177, 1226, 1279, 1342, 1395, 1458, 1521, 1574, 1597, 1620] 1643 (by decide +kernel) (by decide +kernel) ?_
        refine sw_c (0 : Int32) (by decide) (fun c23 => ?_) (fun c23 => ?_)
        · have hO := ok_pos c23 hO
          obtain ⟨g24, hO⟩ := ok_if hO
          obtain ⟨g25, hO⟩ := ok_if hO
          obtain ⟨g26, hO⟩ := ok_if hO
          obtain ⟨g27, hO⟩ := ok_if hO
          obtain ⟨g28, hO⟩ := ok_if hO
          refine rb hG 29 164 190 [.aload 1, .aload 0, .iload 3, .ldc_w 0, .iadd, .faload, .aload 0, .iload 3, .ldc_w 1, .iadd, .faload, .aload 0, .iload 3, .ldc_w 2, .iadd, .faload, .aload 0, .iload 3, .ldc_w 3, .iadd, .faload, .aload 0, .iload 3, .ldc_w 4, .iadd, .faload] [1, 2, 3, 4, 5] [] [(0, .ref 300), (1, .ref 1), (2, .ref 251), (3, .int x3)] [.int ((eS E).1 (Int32.toNatClampNeg (x3 + (5 : Int32)))), .int ((eS E).1 (Int32.toNatClampNeg (x3 + (4 : Int32)))), .int ((eS E).1 (Int32.toNatClampNeg (x3 + (3 : Int32)))), .int ((eS E).1 (Int32.toNatClampNeg (x3 + (2 : Int32)))), .int ((eS E).1 (Int32.toNatClampNeg (x3 + (1 : Int32)))), .ref 1] h [300 = 300 ∧ inb (x3 + (1 : Int32)) (eS E).2, 300 = 300 ∧ inb (x3 + (2 : Int32)) (eS E).2, 300 = 300 ∧ inb (x3 + (3 : Int32)) (eS E).2, 300 = 300 ∧ inb (x3 + (4 : Int32)) (eS E).2, 300 = 300 ∧ inb (x3 + (5 : Int32)) (eS E).2] (by decide +kernel) rfl ⟨⟨rfl, g24⟩, ⟨rfl, g25⟩, ⟨rfl, g26⟩, ⟨rfl, g27⟩, ⟨rfl, g28⟩⟩ ?_
          refine rv hG z_K_feed 13 5 190 1 [.int ((eS E).1 (Int32.toNatClampNeg (x3 + (1 : Int32)))), .int ((eS E).1 (Int32.toNatClampNeg (x3 + (2 : Int32)))), .int ((eS E).1 (Int32.toNatClampNeg (x3 + (3 : Int32)))), .int ((eS E).1 (Int32.toNatClampNeg (x3 + (4 : Int32)))), .int ((eS E).1 (Int32.toNatClampNeg (x3 + (5 : Int32))))] [] (by decide +kernel) mk_K_feed lk_13_13 rcv_1 rfl ⟨rfl, Nat.le_of_ble_eq_true rfl⟩ (c_K_feed (d := d + 13) h ((eS E).1 (Int32.toNatClampNeg (x3 + (1 : Int32)))) ((eS E).1 (Int32.toNatClampNeg (x3 + (2 : Int32)))) ((eS E).1 (Int32.toNatClampNeg (x3 + (3 : Int32)))) ((eS E).1 (Int32.toNatClampNeg (x3 + (4 : Int32)))) ((eS E).1 (Int32.toNatClampNeg (x3 + (5 : Int32)))) (ok_bind hO)) ?_
          rintro _ h30 ⟨r29, rfl, hO⟩
          obtain ⟨g31, hO⟩ := ok_if hO
          obtain ⟨g32, hO⟩ := ok_if hO
          obtain ⟨g33, hO⟩ := ok_if hO
          obtain ⟨g34, hO⟩ := ok_if hO
          obtain ⟨g35, hO⟩ := ok_if hO
          refine rb hG 29 193 219 [.aload 2, .aload 0, .iload 3, .ldc_w 0, .iadd, .faload, .aload 0, .iload 3, .ldc_w 1, .iadd, .faload, .aload 0, .iload 3, .ldc_w 2, .iadd, .faload, .aload 0, .iload 3, .ldc_w 3, .iadd, .faload, .aload 0, .iload 3, .ldc_w 4, .iadd, .faload] [1, 2, 3, 4, 5] [] [(0, .ref 300), (1, .ref 1), (2, .ref 251), (3, .int x3)] [.int ((eS E).1 (Int32.toNatClampNeg (x3 + (5 : Int32)))), .int ((eS E).1 (Int32.toNatClampNeg (x3 + (4 : Int32)))), .int ((eS E).1 (Int32.toNatClampNeg (x3 + (3 : Int32)))), .int ((eS E).1 (Int32.toNatClampNeg (x3 + (2 : Int32)))), .int ((eS E).1 (Int32.toNatClampNeg (x3 + (1 : Int32)))), .ref 251, .int r29] h30 [300 = 300 ∧ inb (x3 + (1 : Int32)) (eS E).2, 300 = 300 ∧ inb (x3 + (2 : Int32)) (eS E).2, 300 = 300 ∧ inb (x3 + (3 : Int32)) (eS E).2, 300 = 300 ∧ inb (x3 + (4 : Int32)) (eS E).2, 300 = 300 ∧ inb (x3 + (5 : Int32)) (eS E).2] (by decide +kernel) rfl ⟨⟨rfl, g31⟩, ⟨rfl, g32⟩, ⟨rfl, g33⟩, ⟨rfl, g34⟩, ⟨rfl, g35⟩⟩ ?_
          refine rv hG z_M_feed 17 5 219 251 [.int ((eS E).1 (Int32.toNatClampNeg (x3 + (1 : Int32)))), .int ((eS E).1 (Int32.toNatClampNeg (x3 + (2 : Int32)))), .int ((eS E).1 (Int32.toNatClampNeg (x3 + (3 : Int32)))), .int ((eS E).1 (Int32.toNatClampNeg (x3 + (4 : Int32)))), .int ((eS E).1 (Int32.toNatClampNeg (x3 + (5 : Int32))))] [.int r29] (by decide +kernel) mk_M_feed lk_13_17 rcv_251 rfl ⟨rfl, Nat.le_of_ble_eq_true rfl⟩ (c_M_feed (d := d + 14) h30 ((eS E).1 (Int32.toNatClampNeg (x3 + (1 : Int32)))) ((eS E).1 (Int32.toNatClampNeg (x3 + (2 : Int32)))) ((eS E).1 (Int32.toNatClampNeg (x3 + (3 : Int32)))) ((eS E).1 (Int32.toNatClampNeg (x3 + (4 : Int32)))) ((eS E).1 (Int32.toNatClampNeg (x3 + (5 : Int32)))) (ok_bind hO)) ?_
          rintro _ h37 ⟨r36, rfl, hO⟩
          refine rj hG .eq (1421) 1643 222 (by decide +kernel) (by decide) (fun c38 => ?_) (fun c38 => ?_)
          · have hO := ok_pos c38 hO
            exact j1643 x3 h37 hO
          · have hO := ok_neg c38 hO
            refine rs hG [] [] rfl ?_
            exact j225 h37 (ok_inr hO)
        have hO := ok_neg c23 hO
        refine sw_c (1 : Int32) (by decide) (fun c39 => ?_) (fun c39 => ?_)
        · have hO := ok_pos c39 hO
          obtain ⟨g40, hO⟩ := ok_if hO
          refine rb hG 9 227 233 [.aload 1, .aload 0, .iload 3, .ldc_w 0, .iadd, .faload] [1] [] [(0, .ref 300), (1, .ref 1), (2, .ref 251), (3, .int x3)] [.int ((eS E).1 (Int32.toNatClampNeg (x3 + (1 : Int32)))), .ref 1] h [300 = 300 ∧ inb (x3 + (1 : Int32)) (eS E).2] (by decide +kernel) rfl ⟨rfl, g40⟩ ?_
          refine rv hG z_K_end 18 1 233 1 [.int ((eS E).1 (Int32.toNatClampNeg (x3 + (1 : Int32))))] [] (by decide +kernel) mk_K_end lk_13_18 rcv_1 rfl ⟨rfl, Nat.le_of_ble_eq_true rfl⟩ (c_K_end (d := d + 14) h ((eS E).1 (Int32.toNatClampNeg (x3 + (1 : Int32)))) (ok_bind hO)) ?_
          rintro _ h42 ⟨r41, rfl, hO⟩
          obtain ⟨g43, hO⟩ := ok_if hO
          refine rb hG 9 236 242 [.aload 2, .aload 0, .iload 3, .ldc_w 0, .iadd, .faload] [1] [] [(0, .ref 300), (1, .ref 1), (2, .ref 251), (3, .int x3)] [.int ((eS E).1 (Int32.toNatClampNeg (x3 + (1 : Int32)))), .ref 251, .int r41] h42 [300 = 300 ∧ inb (x3 + (1 : Int32)) (eS E).2] (by decide +kernel) rfl ⟨rfl, g43⟩ ?_
          refine rv hG z_M_end 22 1 242 251 [.int ((eS E).1 (Int32.toNatClampNeg (x3 + (1 : Int32))))] [.int r41] (by decide +kernel) mk_M_end lk_13_22 rcv_251 rfl ⟨rfl, Nat.le_of_ble_eq_true rfl⟩ (c_M_end (d := d + 14) h42 ((eS E).1 (Int32.toNatClampNeg (x3 + (1 : Int32)))) (ok_bind hO)) ?_
          rintro _ h45 ⟨r44, rfl, hO⟩
          refine rj hG .eq (1398) 1643 245 (by decide +kernel) (by decide) (fun c46 => ?_) (fun c46 => ?_)
          · have hO := ok_pos c46 hO
            exact j1643 x3 h45 hO
          · have hO := ok_neg c46 hO
            refine rs hG [] [] rfl ?_
            exact j248 h45 (ok_inr hO)
        have hO := ok_neg c39 hO
        refine sw_c (2 : Int32) (by decide) (fun c47 => ?_) (fun c47 => ?_)
        · have hO := ok_pos c47 hO
          obtain ⟨g48, hO⟩ := ok_if hO
          obtain ⟨g49, hO⟩ := ok_if hO
          refine rb hG 14 250 261 [.aload 1, .aload 0, .iload 3, .ldc_w 0, .iadd, .faload, .aload 0, .iload 3, .ldc_w 1, .iadd, .faload] [1, 2] [] [(0, .ref 300), (1, .ref 1), (2, .ref 251), (3, .int x3)] [.int ((eS E).1 (Int32.toNatClampNeg (x3 + (2 : Int32)))), .int ((eS E).1 (Int32.toNatClampNeg (x3 + (1 : Int32)))), .ref 1] h [300 = 300 ∧ inb (x3 + (1 : Int32)) (eS E).2, 300 = 300 ∧ inb (x3 + (2 : Int32)) (eS E).2] (by decide +kernel) rfl ⟨⟨rfl, g48⟩, ⟨rfl, g49⟩⟩ ?_
          refine rv hG z_K_text 23 2 261 1 [.int ((eS E).1 (Int32.toNatClampNeg (x3 + (1 : Int32)))), .int ((eS E).1 (Int32.toNatClampNeg (x3 + (2 : Int32))))] [] (by decide +kernel) mk_K_text lk_13_23 rcv_1 rfl ⟨rfl, Nat.le_of_ble_eq_true rfl⟩ (c_K_text (d := d + 8) h ((eS E).1 (Int32.toNatClampNeg (x3 + (1 : Int32)))) ((eS E).1 (Int32.toNatClampNeg (x3 + (2 : Int32)))) (ok_bind hO)) ?_
          rintro _ h51 ⟨r50, rfl, hO⟩
          obtain ⟨g52, hO⟩ := ok_if hO
          obtain ⟨g53, hO⟩ := ok_if hO
          refine rb hG 14 264 275 [.aload 2, .aload 0, .iload 3, .ldc_w 0, .iadd, .faload, .aload 0, .iload 3, .ldc_w 1, .iadd, .faload] [1, 2] [] [(0, .ref 300), (1, .ref 1), (2, .ref 251), (3, .int x3)] [.int ((eS E).1 (Int32.toNatClampNeg (x3 + (2 : Int32)))), .int ((eS E).1 (Int32.toNatClampNeg (x3 + (1 : Int32)))), .ref 251, .int r50] h51 [300 = 300 ∧ inb (x3 + (1 : Int32)) (eS E).2, 300 = 300 ∧ inb (x3 + (2 : Int32)) (eS E).2] (by decide +kernel) rfl ⟨⟨rfl, g52⟩, ⟨rfl, g53⟩⟩ ?_
          refine rv hG z_M_text 27 2 275 251 [.int ((eS E).1 (Int32.toNatClampNeg (x3 + (1 : Int32)))), .int ((eS E).1 (Int32.toNatClampNeg (x3 + (2 : Int32))))] [.int r50] (by decide +kernel) mk_M_text lk_13_27 rcv_251 rfl ⟨rfl, Nat.le_of_ble_eq_true rfl⟩ (c_M_text (d := d + 5) h51 ((eS E).1 (Int32.toNatClampNeg (x3 + (1 : Int32)))) ((eS E).1 (Int32.toNatClampNeg (x3 + (2 : Int32)))) (ok_bind hO)) ?_
          rintro _ h55 ⟨r54, rfl, hO⟩
          refine rj hG .eq (1365) 1643 278 (by decide +kernel) (by decide) (fun c56 => ?_) (fun c56 => ?_)
          · have hO := ok_pos c56 hO
            exact j1643 x3 h55 hO
          · have hO := ok_neg c56 hO
            refine rs hG [] [] rfl ?_
            exact j281 h55 (ok_inr hO)
        have hO := ok_neg c47 hO
        refine sw_c (3 : Int32) (by decide) (fun c57 => ?_) (fun c57 => ?_)
        · have hO := ok_pos c57 hO
          obtain ⟨g58, hO⟩ := ok_if hO
          refine rb hG 9 283 289 [.aload 1, .aload 0, .iload 3, .ldc_w 0, .iadd, .faload] [1] [] [(0, .ref 300), (1, .ref 1), (2, .ref 251), (3, .int x3)] [.int ((eS E).1 (Int32.toNatClampNeg (x3 + (1 : Int32)))), .ref 1] h [300 = 300 ∧ inb (x3 + (1 : Int32)) (eS E).2] (by decide +kernel) rfl ⟨rfl, g58⟩ ?_
          refine rv hG z_K_fault 28 1 289 1 [.int ((eS E).1 (Int32.toNatClampNeg (x3 + (1 : Int32))))] [] (by decide +kernel) mk_K_fault lk_13_28 rcv_1 rfl ⟨rfl, Nat.le_of_ble_eq_true rfl⟩ (c_K_fault (d := d + 15) h ((eS E).1 (Int32.toNatClampNeg (x3 + (1 : Int32)))) (ok_bind hO)) ?_
          rintro _ _ ⟨r59, rfl, rfl, hO⟩
          obtain ⟨g60, hO⟩ := ok_if hO
          refine rb hG 9 292 298 [.aload 2, .aload 0, .iload 3, .ldc_w 0, .iadd, .faload] [1] [] [(0, .ref 300), (1, .ref 1), (2, .ref 251), (3, .int x3)] [.int ((eS E).1 (Int32.toNatClampNeg (x3 + (1 : Int32)))), .ref 251, .int r59] h [300 = 300 ∧ inb (x3 + (1 : Int32)) (eS E).2] (by decide +kernel) rfl ⟨rfl, g60⟩ ?_
          refine rv hG z_M_fault 31 1 298 251 [.int ((eS E).1 (Int32.toNatClampNeg (x3 + (1 : Int32))))] [.int r59] (by decide +kernel) mk_M_fault lk_13_31 rcv_251 rfl ⟨rfl, Nat.le_of_ble_eq_true rfl⟩ (c_M_fault (d := d + 15) h ((eS E).1 (Int32.toNatClampNeg (x3 + (1 : Int32)))) (ok_bind hO)) ?_
          rintro _ h62 ⟨r61, rfl, hO⟩
          refine rj hG .eq (1342) 1643 301 (by decide +kernel) (by decide) (fun c63 => ?_) (fun c63 => ?_)
          · have hO := ok_pos c63 hO
            exact j1643 x3 h62 hO
          · have hO := ok_neg c63 hO
            refine rs hG [] [] rfl ?_
            exact j304 h62 (ok_inr hO)
        have hO := ok_neg c57 hO
        refine sw_c (4 : Int32) (by decide) (fun c64 => ?_) (fun c64 => ?_)
        · have hO := ok_pos c64 hO
          obtain ⟨g65, hO⟩ := ok_if hO
          obtain ⟨g66, hO⟩ := ok_if hO
          refine rb hG 14 306 317 [.aload 1, .aload 0, .iload 3, .ldc_w 0, .iadd, .faload, .aload 0, .iload 3, .ldc_w 1, .iadd, .faload] [1, 2] [] [(0, .ref 300), (1, .ref 1), (2, .ref 251), (3, .int x3)] [.int ((eS E).1 (Int32.toNatClampNeg (x3 + (2 : Int32)))), .int ((eS E).1 (Int32.toNatClampNeg (x3 + (1 : Int32)))), .ref 1] h [300 = 300 ∧ inb (x3 + (1 : Int32)) (eS E).2, 300 = 300 ∧ inb (x3 + (2 : Int32)) (eS E).2] (by decide +kernel) rfl ⟨⟨rfl, g65⟩, ⟨rfl, g66⟩⟩ ?_
          refine rv hG z_K_inn 32 2 317 1 [.int ((eS E).1 (Int32.toNatClampNeg (x3 + (1 : Int32)))), .int ((eS E).1 (Int32.toNatClampNeg (x3 + (2 : Int32))))] [] (by decide +kernel) mk_K_inn lk_13_32 rcv_1 rfl ⟨rfl, Nat.le_of_ble_eq_true rfl⟩ (c_K_inn (d := d + 11) h ((eS E).1 (Int32.toNatClampNeg (x3 + (1 : Int32)))) ((eS E).1 (Int32.toNatClampNeg (x3 + (2 : Int32)))) (ok_bind hO)) ?_
          rintro _ _ ⟨r67, rfl, rfl, hO⟩
          obtain ⟨g68, hO⟩ := ok_if hO
          obtain ⟨g69, hO⟩ := ok_if hO
          refine rb hG 14 320 331 [.aload 2, .aload 0, .iload 3, .ldc_w 0, .iadd, .faload, .aload 0, .iload 3, .ldc_w 1, .iadd, .faload] [1, 2] [] [(0, .ref 300), (1, .ref 1), (2, .ref 251), (3, .int x3)] [.int ((eS E).1 (Int32.toNatClampNeg (x3 + (2 : Int32)))), .int ((eS E).1 (Int32.toNatClampNeg (x3 + (1 : Int32)))), .ref 251, .int r67] h [300 = 300 ∧ inb (x3 + (1 : Int32)) (eS E).2, 300 = 300 ∧ inb (x3 + (2 : Int32)) (eS E).2] (by decide +kernel) rfl ⟨⟨rfl, g68⟩, ⟨rfl, g69⟩⟩ ?_
          refine rv hG z_M_inn 35 2 331 251 [.int ((eS E).1 (Int32.toNatClampNeg (x3 + (1 : Int32)))), .int ((eS E).1 (Int32.toNatClampNeg (x3 + (2 : Int32))))] [.int r67] (by decide +kernel) mk_M_inn lk_13_35 rcv_251 rfl ⟨rfl, Nat.le_of_ble_eq_true rfl⟩ (c_M_inn (d := d + 12) h ((eS E).1 (Int32.toNatClampNeg (x3 + (1 : Int32)))) ((eS E).1 (Int32.toNatClampNeg (x3 + (2 : Int32)))) (ok_bind hO)) ?_
          rintro _ h71 ⟨r70, rfl, hO⟩
          refine rj hG .eq (1309) 1643 334 (by decide +kernel) (by decide) (fun c72 => ?_) (fun c72 => ?_)
          · have hO := ok_pos c72 hO
            exact j1643 x3 h71 hO
          · have hO := ok_neg c72 hO
            refine rs hG [] [] rfl ?_
            exact j337 h71 (ok_inr hO)
        have hO := ok_neg c64 hO
        refine sw_c (5 : Int32) (by decide) (fun c73 => ?_) (fun c73 => ?_)
        · have hO := ok_pos c73 hO
          obtain ⟨g74, hO⟩ := ok_if hO
          obtain ⟨g75, hO⟩ := ok_if hO
          obtain ⟨g76, hO⟩ := ok_if hO
          refine rb hG 19 339 355 [.aload 1, .aload 0, .iload 3, .ldc_w 0, .iadd, .faload, .aload 0, .iload 3, .ldc_w 1, .iadd, .faload, .aload 0, .iload 3, .ldc_w 2, .iadd, .faload] [1, 2, 3] [] [(0, .ref 300), (1, .ref 1), (2, .ref 251), (3, .int x3)] [.int ((eS E).1 (Int32.toNatClampNeg (x3 + (3 : Int32)))), .int ((eS E).1 (Int32.toNatClampNeg (x3 + (2 : Int32)))), .int ((eS E).1 (Int32.toNatClampNeg (x3 + (1 : Int32)))), .ref 1] h [300 = 300 ∧ inb (x3 + (1 : Int32)) (eS E).2, 300 = 300 ∧ inb (x3 + (2 : Int32)) (eS E).2, 300 = 300 ∧ inb (x3 + (3 : Int32)) (eS E).2] (by decide +kernel) rfl ⟨⟨rfl, g74⟩, ⟨rfl, g75⟩, ⟨rfl, g76⟩⟩ ?_
          refine rv hG z_K_deed 36 3 355 1 [.int ((eS E).1 (Int32.toNatClampNeg (x3 + (1 : Int32)))), .int ((eS E).1 (Int32.toNatClampNeg (x3 + (2 : Int32)))), .int ((eS E).1 (Int32.toNatClampNeg (x3 + (3 : Int32))))] [] (by decide +kernel) mk_K_deed lk_13_36 rcv_1 rfl ⟨rfl, Nat.le_of_ble_eq_true rfl⟩ (c_K_deed (d := d + 11) h ((eS E).1 (Int32.toNatClampNeg (x3 + (1 : Int32)))) ((eS E).1 (Int32.toNatClampNeg (x3 + (2 : Int32)))) ((eS E).1 (Int32.toNatClampNeg (x3 + (3 : Int32)))) (ok_bind hO)) ?_
          rintro _ _ ⟨r77, rfl, rfl, hO⟩
          obtain ⟨g78, hO⟩ := ok_if hO
          obtain ⟨g79, hO⟩ := ok_if hO
          obtain ⟨g80, hO⟩ := ok_if hO
          refine rb hG 19 358 374 [.aload 2, .aload 0, .iload 3, .ldc_w 0, .iadd, .faload, .aload 0, .iload 3, .ldc_w 1, .iadd, .faload, .aload 0, .iload 3, .ldc_w 2, .iadd, .faload] [1, 2, 3] [] [(0, .ref 300), (1, .ref 1), (2, .ref 251), (3, .int x3)] [.int ((eS E).1 (Int32.toNatClampNeg (x3 + (3 : Int32)))), .int ((eS E).1 (Int32.toNatClampNeg (x3 + (2 : Int32)))), .int ((eS E).1 (Int32.toNatClampNeg (x3 + (1 : Int32)))), .ref 251, .int r77] h [300 = 300 ∧ inb (x3 + (1 : Int32)) (eS E).2, 300 = 300 ∧ inb (x3 + (2 : Int32)) (eS E).2, 300 = 300 ∧ inb (x3 + (3 : Int32)) (eS E).2] (by decide +kernel) rfl ⟨⟨rfl, g78⟩, ⟨rfl, g79⟩, ⟨rfl, g80⟩⟩ ?_
          refine rv hG z_M_deed 40 3 374 251 [.int ((eS E).1 (Int32.toNatClampNeg (x3 + (1 : Int32)))), .int ((eS E).1 (Int32.toNatClampNeg (x3 + (2 : Int32)))), .int ((eS E).1 (Int32.toNatClampNeg (x3 + (3 : Int32))))] [.int r77] (by decide +kernel) mk_M_deed lk_13_40 rcv_251 rfl ⟨rfl, Nat.le_of_ble_eq_true rfl⟩ (c_M_deed (d := d + 12) h ((eS E).1 (Int32.toNatClampNeg (x3 + (1 : Int32)))) ((eS E).1 (Int32.toNatClampNeg (x3 + (2 : Int32)))) ((eS E).1 (Int32.toNatClampNeg (x3 + (3 : Int32)))) (ok_bind hO)) ?_
          rintro _ h82 ⟨r81, rfl, hO⟩
          refine rj hG .eq (1266) 1643 377 (by decide +kernel) (by decide) (fun c83 => ?_) (fun c83 => ?_)
          · have hO := ok_pos c83 hO
            exact j1643 x3 h82 hO
          · have hO := ok_neg c83 hO
            refine rs hG [] [] rfl ?_
            exact j380 h82 (ok_inr hO)
        have hO := ok_neg c73 hO
        refine sw_c (6 : Int32) (by decide) (fun c84 => ?_) (fun c84 => ?_)
        · have hO := ok_pos c84 hO
          obtain ⟨g85, hO⟩ := ok_if hO
          obtain ⟨g86, hO⟩ := ok_if hO
          refine rb hG 14 382 393 [.aload 1, .aload 0, .iload 3, .ldc_w 0, .iadd, .faload, .aload 0, .iload 3, .ldc_w 1, .iadd, .faload] [1, 2] [] [(0, .ref 300), (1, .ref 1), (2, .ref 251), (3, .int x3)] [.int ((eS E).1 (Int32.toNatClampNeg (x3 + (2 : Int32)))), .int ((eS E).1 (Int32.toNatClampNeg (x3 + (1 : Int32)))), .ref 1] h [300 = 300 ∧ inb (x3 + (1 : Int32)) (eS E).2, 300 = 300 ∧ inb (x3 + (2 : Int32)) (eS E).2] (by decide +kernel) rfl ⟨⟨rfl, g85⟩, ⟨rfl, g86⟩⟩ ?_
          refine rv hG z_K_stop 41 2 393 1 [.int ((eS E).1 (Int32.toNatClampNeg (x3 + (1 : Int32)))), .int ((eS E).1 (Int32.toNatClampNeg (x3 + (2 : Int32))))] [] (by decide +kernel) mk_K_stop lk_13_41 rcv_1 rfl ⟨rfl, Nat.le_of_ble_eq_true rfl⟩ (c_K_stop (d := d + 9) h ((eS E).1 (Int32.toNatClampNeg (x3 + (1 : Int32)))) ((eS E).1 (Int32.toNatClampNeg (x3 + (2 : Int32)))) (ok_bind hO)) ?_
          rintro _ h88 ⟨r87, rfl, hO⟩
          obtain ⟨g89, hO⟩ := ok_if hO
          obtain ⟨g90, hO⟩ := ok_if hO
          refine rb hG 14 396 407 [.aload 2, .aload 0, .iload 3, .ldc_w 0, .iadd, .faload, .aload 0, .iload 3, .ldc_w 1, .iadd, .faload] [1, 2] [] [(0, .ref 300), (1, .ref 1), (2, .ref 251), (3, .int x3)] [.int ((eS E).1 (Int32.toNatClampNeg (x3 + (2 : Int32)))), .int ((eS E).1 (Int32.toNatClampNeg (x3 + (1 : Int32)))), .ref 251, .int r87] h88 [300 = 300 ∧ inb (x3 + (1 : Int32)) (eS E).2, 300 = 300 ∧ inb (x3 + (2 : Int32)) (eS E).2] (by decide +kernel) rfl ⟨⟨rfl, g89⟩, ⟨rfl, g90⟩⟩ ?_
          refine rv hG z_M_stop 44 2 407 251 [.int ((eS E).1 (Int32.toNatClampNeg (x3 + (1 : Int32)))), .int ((eS E).1 (Int32.toNatClampNeg (x3 + (2 : Int32))))] [.int r87] (by decide +kernel) mk_M_stop lk_13_44 rcv_251 rfl ⟨rfl, Nat.le_of_ble_eq_true rfl⟩ (c_M_stop (d := d + 8) h88 ((eS E).1 (Int32.toNatClampNeg (x3 + (1 : Int32)))) ((eS E).1 (Int32.toNatClampNeg (x3 + (2 : Int32)))) (ok_bind hO)) ?_
          rintro _ h92 ⟨r91, rfl, hO⟩
          refine rj hG .eq (1233) 1643 410 (by decide +kernel) (by decide) (fun c93 => ?_) (fun c93 => ?_)
          · have hO := ok_pos c93 hO
            exact j1643 x3 h92 hO
          · have hO := ok_neg c93 hO
            refine rs hG [] [] rfl ?_
            exact j413 h92 (ok_inr hO)
        have hO := ok_neg c84 hO
        refine sw_c (7 : Int32) (by decide) (fun c94 => ?_) (fun c94 => ?_)
        · have hO := ok_pos c94 hO
          obtain ⟨g95, hO⟩ := ok_if hO
          obtain ⟨g96, hO⟩ := ok_if hO
          obtain ⟨g97, hO⟩ := ok_if hO
          obtain ⟨g98, hO⟩ := ok_if hO
          refine rb hG 24 415 436 [.aload 1, .aload 0, .iload 3, .ldc_w 0, .iadd, .faload, .aload 0, .iload 3, .ldc_w 1, .iadd, .faload, .aload 0, .iload 3, .ldc_w 2, .iadd, .faload, .aload 0, .iload 3, .ldc_w 3, .iadd, .faload] [1, 2, 3, 4] [] [(0, .ref 300), (1, .ref 1), (2, .ref 251), (3, .int x3)] [.int ((eS E).1 (Int32.toNatClampNeg (x3 + (4 : Int32)))), .int ((eS E).1 (Int32.toNatClampNeg (x3 + (3 : Int32)))), .int ((eS E).1 (Int32.toNatClampNeg (x3 + (2 : Int32)))), .int ((eS E).1 (Int32.toNatClampNeg (x3 + (1 : Int32)))), .ref 1] h [300 = 300 ∧ inb (x3 + (1 : Int32)) (eS E).2, 300 = 300 ∧ inb (x3 + (2 : Int32)) (eS E).2, 300 = 300 ∧ inb (x3 + (3 : Int32)) (eS E).2, 300 = 300 ∧ inb (x3 + (4 : Int32)) (eS E).2] (by decide +kernel) rfl ⟨⟨rfl, g95⟩, ⟨rfl, g96⟩, ⟨rfl, g97⟩, ⟨rfl, g98⟩⟩ ?_
          refine rv hG z_K_state 45 4 436 1 [.int ((eS E).1 (Int32.toNatClampNeg (x3 + (1 : Int32)))), .int ((eS E).1 (Int32.toNatClampNeg (x3 + (2 : Int32)))), .int ((eS E).1 (Int32.toNatClampNeg (x3 + (3 : Int32)))), .int ((eS E).1 (Int32.toNatClampNeg (x3 + (4 : Int32))))] [] (by decide +kernel) mk_K_state lk_13_45 rcv_1 rfl ⟨rfl, Nat.le_of_ble_eq_true rfl⟩ (c_K_state (d := d + 8) h ((eS E).1 (Int32.toNatClampNeg (x3 + (1 : Int32)))) ((eS E).1 (Int32.toNatClampNeg (x3 + (2 : Int32)))) ((eS E).1 (Int32.toNatClampNeg (x3 + (3 : Int32)))) ((eS E).1 (Int32.toNatClampNeg (x3 + (4 : Int32)))) (ok_bind hO)) ?_
          rintro _ h100 ⟨r99, rfl, hO⟩
          obtain ⟨g101, hO⟩ := ok_if hO
          obtain ⟨g102, hO⟩ := ok_if hO
          obtain ⟨g103, hO⟩ := ok_if hO
          obtain ⟨g104, hO⟩ := ok_if hO
          refine rb hG 24 439 460 [.aload 2, .aload 0, .iload 3, .ldc_w 0, .iadd, .faload, .aload 0, .iload 3, .ldc_w 1, .iadd, .faload, .aload 0, .iload 3, .ldc_w 2, .iadd, .faload, .aload 0, .iload 3, .ldc_w 3, .iadd, .faload] [1, 2, 3, 4] [] [(0, .ref 300), (1, .ref 1), (2, .ref 251), (3, .int x3)] [.int ((eS E).1 (Int32.toNatClampNeg (x3 + (4 : Int32)))), .int ((eS E).1 (Int32.toNatClampNeg (x3 + (3 : Int32)))), .int ((eS E).1 (Int32.toNatClampNeg (x3 + (2 : Int32)))), .int ((eS E).1 (Int32.toNatClampNeg (x3 + (1 : Int32)))), .ref 251, .int r99] h100 [300 = 300 ∧ inb (x3 + (1 : Int32)) (eS E).2, 300 = 300 ∧ inb (x3 + (2 : Int32)) (eS E).2, 300 = 300 ∧ inb (x3 + (3 : Int32)) (eS E).2, 300 = 300 ∧ inb (x3 + (4 : Int32)) (eS E).2] (by decide +kernel) rfl ⟨⟨rfl, g101⟩, ⟨rfl, g102⟩, ⟨rfl, g103⟩, ⟨rfl, g104⟩⟩ ?_
          refine rv hG z_M_state 49 4 460 251 [.int ((eS E).1 (Int32.toNatClampNeg (x3 + (1 : Int32)))), .int ((eS E).1 (Int32.toNatClampNeg (x3 + (2 : Int32)))), .int ((eS E).1 (Int32.toNatClampNeg (x3 + (3 : Int32)))), .int ((eS E).1 (Int32.toNatClampNeg (x3 + (4 : Int32))))] [.int r99] (by decide +kernel) mk_M_state lk_13_49 rcv_251 rfl ⟨rfl, Nat.le_of_ble_eq_true rfl⟩ (c_M_state (d := d + 7) h100 ((eS E).1 (Int32.toNatClampNeg (x3 + (1 : Int32)))) ((eS E).1 (Int32.toNatClampNeg (x3 + (2 : Int32)))) ((eS E).1 (Int32.toNatClampNeg (x3 + (3 : Int32)))) ((eS E).1 (Int32.toNatClampNeg (x3 + (4 : Int32)))) (ok_bind hO)) ?_
          rintro _ h106 ⟨r105, rfl, hO⟩
          refine rj hG .eq (1180) 1643 463 (by decide +kernel) (by decide) (fun c107 => ?_) (fun c107 => ?_)
          · have hO := ok_pos c107 hO
            exact j1643 x3 h106 hO
          · have hO := ok_neg c107 hO
            refine rs hG [] [] rfl ?_
            exact j466 h106 (ok_inr hO)
        have hO := ok_neg c94 hO
        refine sw_c (8 : Int32) (by decide) (fun c108 => ?_) (fun c108 => ?_)
        · have hO := ok_pos c108 hO
          obtain ⟨g109, hO⟩ := ok_if hO
          obtain ⟨g110, hO⟩ := ok_if hO
          obtain ⟨g111, hO⟩ := ok_if hO
          obtain ⟨g112, hO⟩ := ok_if hO
          obtain ⟨g113, hO⟩ := ok_if hO
          refine rb hG 29 468 494 [.aload 1, .aload 0, .iload 3, .ldc_w 0, .iadd, .faload, .aload 0, .iload 3, .ldc_w 1, .iadd, .faload, .aload 0, .iload 3, .ldc_w 2, .iadd, .faload, .aload 0, .iload 3, .ldc_w 3, .iadd, .faload, .aload 0, .iload 3, .ldc_w 4, .iadd, .faload] [1, 2, 3, 4, 5] [] [(0, .ref 300), (1, .ref 1), (2, .ref 251), (3, .int x3)] [.int ((eS E).1 (Int32.toNatClampNeg (x3 + (5 : Int32)))), .int ((eS E).1 (Int32.toNatClampNeg (x3 + (4 : Int32)))), .int ((eS E).1 (Int32.toNatClampNeg (x3 + (3 : Int32)))), .int ((eS E).1 (Int32.toNatClampNeg (x3 + (2 : Int32)))), .int ((eS E).1 (Int32.toNatClampNeg (x3 + (1 : Int32)))), .ref 1] h [300 = 300 ∧ inb (x3 + (1 : Int32)) (eS E).2, 300 = 300 ∧ inb (x3 + (2 : Int32)) (eS E).2, 300 = 300 ∧ inb (x3 + (3 : Int32)) (eS E).2, 300 = 300 ∧ inb (x3 + (4 : Int32)) (eS E).2, 300 = 300 ∧ inb (x3 + (5 : Int32)) (eS E).2] (by decide +kernel) rfl ⟨⟨rfl, g109⟩, ⟨rfl, g110⟩, ⟨rfl, g111⟩, ⟨rfl, g112⟩, ⟨rfl, g113⟩⟩ ?_
          refine rv hG z_K_guest 50 5 494 1 [.int ((eS E).1 (Int32.toNatClampNeg (x3 + (1 : Int32)))), .int ((eS E).1 (Int32.toNatClampNeg (x3 + (2 : Int32)))), .int ((eS E).1 (Int32.toNatClampNeg (x3 + (3 : Int32)))), .int ((eS E).1 (Int32.toNatClampNeg (x3 + (4 : Int32)))), .int ((eS E).1 (Int32.toNatClampNeg (x3 + (5 : Int32))))] [] (by decide +kernel) mk_K_guest lk_13_50 rcv_1 rfl ⟨rfl, Nat.le_of_ble_eq_true rfl⟩ (c_K_guest (d := d + 8) h ((eS E).1 (Int32.toNatClampNeg (x3 + (1 : Int32)))) ((eS E).1 (Int32.toNatClampNeg (x3 + (2 : Int32)))) ((eS E).1 (Int32.toNatClampNeg (x3 + (3 : Int32)))) ((eS E).1 (Int32.toNatClampNeg (x3 + (4 : Int32)))) ((eS E).1 (Int32.toNatClampNeg (x3 + (5 : Int32)))) (ok_bind hO)) ?_
          rintro _ h115 ⟨r114, rfl, hO⟩
          obtain ⟨g116, hO⟩ := ok_if hO
          obtain ⟨g117, hO⟩ := ok_if hO
          obtain ⟨g118, hO⟩ := ok_if hO
          obtain ⟨g119, hO⟩ := ok_if hO
          obtain ⟨g120, hO⟩ := ok_if hO
          refine rb hG 29 497 523 [.aload 2, .aload 0, .iload 3, .ldc_w 0, .iadd, .faload, .aload 0, .iload 3, .ldc_w 1, .iadd, .faload, .aload 0, .iload 3, .ldc_w 2, .iadd, .faload, .aload 0, .iload 3, .ldc_w 3, .iadd, .faload, .aload 0, .iload 3, .ldc_w 4, .iadd, .faload] [1, 2, 3, 4, 5] [] [(0, .ref 300), (1, .ref 1), (2, .ref 251), (3, .int x3)] [.int ((eS E).1 (Int32.toNatClampNeg (x3 + (5 : Int32)))), .int ((eS E).1 (Int32.toNatClampNeg (x3 + (4 : Int32)))), .int ((eS E).1 (Int32.toNatClampNeg (x3 + (3 : Int32)))), .int ((eS E).1 (Int32.toNatClampNeg (x3 + (2 : Int32)))), .int ((eS E).1 (Int32.toNatClampNeg (x3 + (1 : Int32)))), .ref 251, .int r114] h115 [300 = 300 ∧ inb (x3 + (1 : Int32)) (eS E).2, 300 = 300 ∧ inb (x3 + (2 : Int32)) (eS E).2, 300 = 300 ∧ inb (x3 + (3 : Int32)) (eS E).2, 300 = 300 ∧ inb (x3 + (4 : Int32)) (eS E).2, 300 = 300 ∧ inb (x3 + (5 : Int32)) (eS E).2] (by decide +kernel) rfl ⟨⟨rfl, g116⟩, ⟨rfl, g117⟩, ⟨rfl, g118⟩, ⟨rfl, g119⟩, ⟨rfl, g120⟩⟩ ?_
          refine rv hG z_M_guest 53 5 523 251 [.int ((eS E).1 (Int32.toNatClampNeg (x3 + (1 : Int32)))), .int ((eS E).1 (Int32.toNatClampNeg (x3 + (2 : Int32)))), .int ((eS E).1 (Int32.toNatClampNeg (x3 + (3 : Int32)))), .int ((eS E).1 (Int32.toNatClampNeg (x3 + (4 : Int32)))), .int ((eS E).1 (Int32.toNatClampNeg (x3 + (5 : Int32))))] [.int r114] (by decide +kernel) mk_M_guest lk_13_53 rcv_251 rfl ⟨rfl, Nat.le_of_ble_eq_true rfl⟩ (c_M_guest (d := d + 7) h115 ((eS E).1 (Int32.toNatClampNeg (x3 + (1 : Int32)))) ((eS E).1 (Int32.toNatClampNeg (x3 + (2 : Int32)))) ((eS E).1 (Int32.toNatClampNeg (x3 + (3 : Int32)))) ((eS E).1 (Int32.toNatClampNeg (x3 + (4 : Int32)))) ((eS E).1 (Int32.toNatClampNeg (x3 + (5 : Int32)))) (ok_bind hO)) ?_
          rintro _ h122 ⟨r121, rfl, hO⟩
          refine rj hG .eq (1117) 1643 526 (by decide +kernel) (by decide) (fun c123 => ?_) (fun c123 => ?_)
          · have hO := ok_pos c123 hO
            exact j1643 x3 h122 hO
          · have hO := ok_neg c123 hO
            refine rs hG [] [] rfl ?_
            exact j529 h122 (ok_inr hO)
        have hO := ok_neg c108 hO
        refine sw_c (9 : Int32) (by decide) (fun c124 => ?_) (fun c124 => ?_)
        · have hO := ok_pos c124 hO
          obtain ⟨g125, hO⟩ := ok_if hO
          obtain ⟨g126, hO⟩ := ok_if hO
          obtain ⟨g127, hO⟩ := ok_if hO
          obtain ⟨g128, hO⟩ := ok_if hO
          obtain ⟨g129, hO⟩ := ok_if hO
          obtain ⟨g130, hO⟩ := ok_if hO
          refine rb hG 34 531 563 [.aload 1, .aload 0, .iload 3, .ldc_w 0, .iadd, .faload, .aload 0, .iload 3, .ldc_w 1, .iadd, .faload, .aload 0, .iload 3, .ldc_w 2, .iadd, .faload, .aload 0, .iload 3, .ldc_w 3, .iadd, .faload, .aload 0, .iload 3, .ldc_w 4, .iadd, .faload, .aload 0, .iload 3, .ldc_w 5, .iadd, .faload] [1, 2, 3, 4, 5, 6] [] [(0, .ref 300), (1, .ref 1), (2, .ref 251), (3, .int x3)] [.int ((eS E).1 (Int32.toNatClampNeg (x3 + (6 : Int32)))), .int ((eS E).1 (Int32.toNatClampNeg (x3 + (5 : Int32)))), .int ((eS E).1 (Int32.toNatClampNeg (x3 + (4 : Int32)))), .int ((eS E).1 (Int32.toNatClampNeg (x3 + (3 : Int32)))), .int ((eS E).1 (Int32.toNatClampNeg (x3 + (2 : Int32)))), .int ((eS E).1 (Int32.toNatClampNeg (x3 + (1 : Int32)))), .ref 1] h [300 = 300 ∧ inb (x3 + (1 : Int32)) (eS E).2, 300 = 300 ∧ inb (x3 + (2 : Int32)) (eS E).2, 300 = 300 ∧ inb (x3 + (3 : Int32)) (eS E).2, 300 = 300 ∧ inb (x3 + (4 : Int32)) (eS E).2, 300 = 300 ∧ inb (x3 + (5 : Int32)) (eS E).2, 300 = 300 ∧ inb (x3 + (6 : Int32)) (eS E).2] (by decide +kernel) rfl ⟨⟨rfl, g125⟩, ⟨rfl, g126⟩, ⟨rfl, g127⟩, ⟨rfl, g128⟩, ⟨rfl, g129⟩, ⟨rfl, g130⟩⟩ ?_
          refine rv hG z_K_past 54 6 563 1 [.int ((eS E).1 (Int32.toNatClampNeg (x3 + (1 : Int32)))), .int ((eS E).1 (Int32.toNatClampNeg (x3 + (2 : Int32)))), .int ((eS E).1 (Int32.toNatClampNeg (x3 + (3 : Int32)))), .int ((eS E).1 (Int32.toNatClampNeg (x3 + (4 : Int32)))), .int ((eS E).1 (Int32.toNatClampNeg (x3 + (5 : Int32)))), .int ((eS E).1 (Int32.toNatClampNeg (x3 + (6 : Int32))))] [] (by decide +kernel) mk_K_past lk_13_54 rcv_1 rfl ⟨rfl, Nat.le_of_ble_eq_true rfl⟩ (c_K_past (d := d + 8) h ((eS E).1 (Int32.toNatClampNeg (x3 + (1 : Int32)))) ((eS E).1 (Int32.toNatClampNeg (x3 + (2 : Int32)))) ((eS E).1 (Int32.toNatClampNeg (x3 + (3 : Int32)))) ((eS E).1 (Int32.toNatClampNeg (x3 + (4 : Int32)))) ((eS E).1 (Int32.toNatClampNeg (x3 + (5 : Int32)))) ((eS E).1 (Int32.toNatClampNeg (x3 + (6 : Int32)))) (ok_bind hO)) ?_
          rintro _ h132 ⟨r131, rfl, hO⟩
          obtain ⟨g133, hO⟩ := ok_if hO
          obtain ⟨g134, hO⟩ := ok_if hO
          obtain ⟨g135, hO⟩ := ok_if hO
          obtain ⟨g136, hO⟩ := ok_if hO
          obtain ⟨g137, hO⟩ := ok_if hO
          obtain ⟨g138, hO⟩ := ok_if hO
          refine rb hG 34 566 598 [.aload 2, .aload 0, .iload 3, .ldc_w 0, .iadd, .faload, .aload 0, .iload 3, .ldc_w 1, .iadd, .faload, .aload 0, .iload 3, .ldc_w 2, .iadd, .faload, .aload 0, .iload 3, .ldc_w 3, .iadd, .faload, .aload 0, .iload 3, .ldc_w 4, .iadd, .faload, .aload 0, .iload 3, .ldc_w 5, .iadd, .faload] [1, 2, 3, 4, 5, 6] [] [(0, .ref 300), (1, .ref 1), (2, .ref 251), (3, .int x3)] [.int ((eS E).1 (Int32.toNatClampNeg (x3 + (6 : Int32)))), .int ((eS E).1 (Int32.toNatClampNeg (x3 + (5 : Int32)))), .int ((eS E).1 (Int32.toNatClampNeg (x3 + (4 : Int32)))), .int ((eS E).1 (Int32.toNatClampNeg (x3 + (3 : Int32)))), .int ((eS E).1 (Int32.toNatClampNeg (x3 + (2 : Int32)))), .int ((eS E).1 (Int32.toNatClampNeg (x3 + (1 : Int32)))), .ref 251, .int r131] h132 [300 = 300 ∧ inb (x3 + (1 : Int32)) (eS E).2, 300 = 300 ∧ inb (x3 + (2 : Int32)) (eS E).2, 300 = 300 ∧ inb (x3 + (3 : Int32)) (eS E).2, 300 = 300 ∧ inb (x3 + (4 : Int32)) (eS E).2, 300 = 300 ∧ inb (x3 + (5 : Int32)) (eS E).2, 300 = 300 ∧ inb (x3 + (6 : Int32)) (eS E).2] (by decide +kernel) rfl ⟨⟨rfl, g133⟩, ⟨rfl, g134⟩, ⟨rfl, g135⟩, ⟨rfl, g136⟩, ⟨rfl, g137⟩, ⟨rfl, g138⟩⟩ ?_
          refine rv hG z_M_past 58 6 598 251 [.int ((eS E).1 (Int32.toNatClampNeg (x3 + (1 : Int32)))), .int ((eS E).1 (Int32.toNatClampNeg (x3 + (2 : Int32)))), .int ((eS E).1 (Int32.toNatClampNeg (x3 + (3 : Int32)))), .int ((eS E).1 (Int32.toNatClampNeg (x3 + (4 : Int32)))), .int ((eS E).1 (Int32.toNatClampNeg (x3 + (5 : Int32)))), .int ((eS E).1 (Int32.toNatClampNeg (x3 + (6 : Int32))))] [.int r131] (by decide +kernel) mk_M_past lk_13_58 rcv_251 rfl ⟨rfl, Nat.le_of_ble_eq_true rfl⟩ (c_M_past (d := d + 7) h132 ((eS E).1 (Int32.toNatClampNeg (x3 + (1 : Int32)))) ((eS E).1 (Int32.toNatClampNeg (x3 + (2 : Int32)))) ((eS E).1 (Int32.toNatClampNeg (x3 + (3 : Int32)))) ((eS E).1 (Int32.toNatClampNeg (x3 + (4 : Int32)))) ((eS E).1 (Int32.toNatClampNeg (x3 + (5 : Int32)))) ((eS E).1 (Int32.toNatClampNeg (x3 + (6 : Int32)))) (ok_bind hO)) ?_
          rintro _ h140 ⟨r139, rfl, hO⟩
          refine rj hG .eq (1042) 1643 601 (by decide +kernel) (by decide) (fun c141 => ?_) (fun c141 => ?_)
          · have hO := ok_pos c141 hO
            exact j1643 x3 h140 hO
          · have hO := ok_neg c141 hO
            refine rs hG [] [] rfl ?_
            exact j604 h140 (ok_inr hO)
        have hO := ok_neg c124 hO
        refine sw_c (10 : Int32) (by decide) (fun c142 => ?_) (fun c142 => ?_)
        · have hO := ok_pos c142 hO
          obtain ⟨g143, hO⟩ := ok_if hO
          obtain ⟨g144, hO⟩ := ok_if hO
          obtain ⟨g145, hO⟩ := ok_if hO
          refine rb hG 19 606 622 [.aload 1, .aload 0, .iload 3, .ldc_w 0, .iadd, .faload, .aload 0, .iload 3, .ldc_w 1, .iadd, .faload, .aload 0, .iload 3, .ldc_w 2, .iadd, .faload] [1, 2, 3] [] [(0, .ref 300), (1, .ref 1), (2, .ref 251), (3, .int x3)] [.int ((eS E).1 (Int32.toNatClampNeg (x3 + (3 : Int32)))), .int ((eS E).1 (Int32.toNatClampNeg (x3 + (2 : Int32)))), .int ((eS E).1 (Int32.toNatClampNeg (x3 + (1 : Int32)))), .ref 1] h [300 = 300 ∧ inb (x3 + (1 : Int32)) (eS E).2, 300 = 300 ∧ inb (x3 + (2 : Int32)) (eS E).2, 300 = 300 ∧ inb (x3 + (3 : Int32)) (eS E).2] (by decide +kernel) rfl ⟨⟨rfl, g143⟩, ⟨rfl, g144⟩, ⟨rfl, g145⟩⟩ ?_
          refine rv hG z_K_wish 59 3 622 1 [.int ((eS E).1 (Int32.toNatClampNeg (x3 + (1 : Int32)))), .int ((eS E).1 (Int32.toNatClampNeg (x3 + (2 : Int32)))), .int ((eS E).1 (Int32.toNatClampNeg (x3 + (3 : Int32))))] [] (by decide +kernel) mk_K_wish lk_13_59 rcv_1 rfl ⟨rfl, Nat.le_of_ble_eq_true rfl⟩ (c_K_wish (d := d + 11) h ((eS E).1 (Int32.toNatClampNeg (x3 + (1 : Int32)))) ((eS E).1 (Int32.toNatClampNeg (x3 + (2 : Int32)))) ((eS E).1 (Int32.toNatClampNeg (x3 + (3 : Int32)))) (ok_bind hO)) ?_
          rintro _ _ ⟨r146, rfl, rfl, hO⟩
          obtain ⟨g147, hO⟩ := ok_if hO
          obtain ⟨g148, hO⟩ := ok_if hO
          obtain ⟨g149, hO⟩ := ok_if hO
          refine rb hG 19 625 641 [.aload 2, .aload 0, .iload 3, .ldc_w 0, .iadd, .faload, .aload 0, .iload 3, .ldc_w 1, .iadd, .faload, .aload 0, .iload 3, .ldc_w 2, .iadd, .faload] [1, 2, 3] [] [(0, .ref 300), (1, .ref 1), (2, .ref 251), (3, .int x3)] [.int ((eS E).1 (Int32.toNatClampNeg (x3 + (3 : Int32)))), .int ((eS E).1 (Int32.toNatClampNeg (x3 + (2 : Int32)))), .int ((eS E).1 (Int32.toNatClampNeg (x3 + (1 : Int32)))), .ref 251, .int r146] h [300 = 300 ∧ inb (x3 + (1 : Int32)) (eS E).2, 300 = 300 ∧ inb (x3 + (2 : Int32)) (eS E).2, 300 = 300 ∧ inb (x3 + (3 : Int32)) (eS E).2] (by decide +kernel) rfl ⟨⟨rfl, g147⟩, ⟨rfl, g148⟩, ⟨rfl, g149⟩⟩ ?_
          refine rv hG z_M_wish 62 3 641 251 [.int ((eS E).1 (Int32.toNatClampNeg (x3 + (1 : Int32)))), .int ((eS E).1 (Int32.toNatClampNeg (x3 + (2 : Int32)))), .int ((eS E).1 (Int32.toNatClampNeg (x3 + (3 : Int32))))] [.int r146] (by decide +kernel) mk_M_wish lk_13_62 rcv_251 rfl ⟨rfl, Nat.le_of_ble_eq_true rfl⟩ (c_M_wish (d := d + 12) h ((eS E).1 (Int32.toNatClampNeg (x3 + (1 : Int32)))) ((eS E).1 (Int32.toNatClampNeg (x3 + (2 : Int32)))) ((eS E).1 (Int32.toNatClampNeg (x3 + (3 : Int32)))) (ok_bind hO)) ?_
          rintro _ h151 ⟨r150, rfl, hO⟩
          refine rj hG .eq (999) 1643 644 (by decide +kernel) (by decide) (fun c152 => ?_) (fun c152 => ?_)
          · have hO := ok_pos c152 hO
            exact j1643 x3 h151 hO
          · have hO := ok_neg c152 hO
            refine rs hG [] [] rfl ?_
            exact j647 h151 (ok_inr hO)
        have hO := ok_neg c142 hO
        refine sw_c (11 : Int32) (by decide) (fun c153 => ?_) (fun c153 => ?_)
        · have hO := ok_pos c153 hO
          obtain ⟨g154, hO⟩ := ok_if hO
          obtain ⟨g155, hO⟩ := ok_if hO
          obtain ⟨g156, hO⟩ := ok_if hO
          obtain ⟨g157, hO⟩ := ok_if hO
          obtain ⟨g158, hO⟩ := ok_if hO
          refine rb hG 29 649 675 [.aload 1, .aload 0, .iload 3, .ldc_w 0, .iadd, .faload, .aload 0, .iload 3, .ldc_w 1, .iadd, .faload, .aload 0, .iload 3, .ldc_w 2, .iadd, .faload, .aload 0, .iload 3, .ldc_w 3, .iadd, .faload, .aload 0, .iload 3, .ldc_w 4, .iadd, .faload] [1, 2, 3, 4, 5] [] [(0, .ref 300), (1, .ref 1), (2, .ref 251), (3, .int x3)] [.int ((eS E).1 (Int32.toNatClampNeg (x3 + (5 : Int32)))), .int ((eS E).1 (Int32.toNatClampNeg (x3 + (4 : Int32)))), .int ((eS E).1 (Int32.toNatClampNeg (x3 + (3 : Int32)))), .int ((eS E).1 (Int32.toNatClampNeg (x3 + (2 : Int32)))), .int ((eS E).1 (Int32.toNatClampNeg (x3 + (1 : Int32)))), .ref 1] h [300 = 300 ∧ inb (x3 + (1 : Int32)) (eS E).2, 300 = 300 ∧ inb (x3 + (2 : Int32)) (eS E).2, 300 = 300 ∧ inb (x3 + (3 : Int32)) (eS E).2, 300 = 300 ∧ inb (x3 + (4 : Int32)) (eS E).2, 300 = 300 ∧ inb (x3 + (5 : Int32)) (eS E).2] (by decide +kernel) rfl ⟨⟨rfl, g154⟩, ⟨rfl, g155⟩, ⟨rfl, g156⟩, ⟨rfl, g157⟩, ⟨rfl, g158⟩⟩ ?_
          refine rv hG z_K_seats 63 5 675 1 [.int ((eS E).1 (Int32.toNatClampNeg (x3 + (1 : Int32)))), .int ((eS E).1 (Int32.toNatClampNeg (x3 + (2 : Int32)))), .int ((eS E).1 (Int32.toNatClampNeg (x3 + (3 : Int32)))), .int ((eS E).1 (Int32.toNatClampNeg (x3 + (4 : Int32)))), .int ((eS E).1 (Int32.toNatClampNeg (x3 + (5 : Int32))))] [] (by decide +kernel) mk_K_seats lk_13_63 rcv_1 rfl ⟨rfl, Nat.le_of_ble_eq_true rfl⟩ (c_K_seats (d := d + 1) h ((eS E).1 (Int32.toNatClampNeg (x3 + (1 : Int32)))) ((eS E).1 (Int32.toNatClampNeg (x3 + (2 : Int32)))) ((eS E).1 (Int32.toNatClampNeg (x3 + (3 : Int32)))) ((eS E).1 (Int32.toNatClampNeg (x3 + (4 : Int32)))) ((eS E).1 (Int32.toNatClampNeg (x3 + (5 : Int32)))) (ok_bind hO)) ?_
          rintro _ h160 ⟨r159, rfl, hO⟩
          obtain ⟨g161, hO⟩ := ok_if hO
          obtain ⟨g162, hO⟩ := ok_if hO
          obtain ⟨g163, hO⟩ := ok_if hO
          obtain ⟨g164, hO⟩ := ok_if hO
          obtain ⟨g165, hO⟩ := ok_if hO
          refine rb hG 29 678 704 [.aload 2, .aload 0, .iload 3, .ldc_w 0, .iadd, .faload, .aload 0, .iload 3, .ldc_w 1, .iadd, .faload, .aload 0, .iload 3, .ldc_w 2, .iadd, .faload, .aload 0, .iload 3, .ldc_w 3, .iadd, .faload, .aload 0, .iload 3, .ldc_w 4, .iadd, .faload] [1, 2, 3, 4, 5] [] [(0, .ref 300), (1, .ref 1), (2, .ref 251), (3, .int x3)] [.int ((eS E).1 (Int32.toNatClampNeg (x3 + (5 : Int32)))), .int ((eS E).1 (Int32.toNatClampNeg (x3 + (4 : Int32)))), .int ((eS E).1 (Int32.toNatClampNeg (x3 + (3 : Int32)))), .int ((eS E).1 (Int32.toNatClampNeg (x3 + (2 : Int32)))), .int ((eS E).1 (Int32.toNatClampNeg (x3 + (1 : Int32)))), .ref 251, .int r159] h160 [300 = 300 ∧ inb (x3 + (1 : Int32)) (eS E).2, 300 = 300 ∧ inb (x3 + (2 : Int32)) (eS E).2, 300 = 300 ∧ inb (x3 + (3 : Int32)) (eS E).2, 300 = 300 ∧ inb (x3 + (4 : Int32)) (eS E).2, 300 = 300 ∧ inb (x3 + (5 : Int32)) (eS E).2] (by decide +kernel) rfl ⟨⟨rfl, g161⟩, ⟨rfl, g162⟩, ⟨rfl, g163⟩, ⟨rfl, g164⟩, ⟨rfl, g165⟩⟩ ?_
          refine rv hG z_M_seats 66 5 704 251 [.int ((eS E).1 (Int32.toNatClampNeg (x3 + (1 : Int32)))), .int ((eS E).1 (Int32.toNatClampNeg (x3 + (2 : Int32)))), .int ((eS E).1 (Int32.toNatClampNeg (x3 + (3 : Int32)))), .int ((eS E).1 (Int32.toNatClampNeg (x3 + (4 : Int32)))), .int ((eS E).1 (Int32.toNatClampNeg (x3 + (5 : Int32))))] [.int r159] (by decide +kernel) mk_M_seats lk_13_66 rcv_251 rfl ⟨rfl, Nat.le_of_ble_eq_true rfl⟩ (c_M_seats (d := d + 7) h160 ((eS E).1 (Int32.toNatClampNeg (x3 + (1 : Int32)))) ((eS E).1 (Int32.toNatClampNeg (x3 + (2 : Int32)))) ((eS E).1 (Int32.toNatClampNeg (x3 + (3 : Int32)))) ((eS E).1 (Int32.toNatClampNeg (x3 + (4 : Int32)))) ((eS E).1 (Int32.toNatClampNeg (x3 + (5 : Int32)))) (ok_bind hO)) ?_
          rintro _ h167 ⟨r166, rfl, hO⟩
          refine rj hG .eq (936) 1643 707 (by decide +kernel) (by decide) (fun c168 => ?_) (fun c168 => ?_)
          · have hO := ok_pos c168 hO
            exact j1643 x3 h167 hO
          · have hO := ok_neg c168 hO
            refine rs hG [] [] rfl ?_
            exact j710 h167 (ok_inr hO)
        have hO := ok_neg c153 hO
        refine sw_c (12 : Int32) (by decide) (fun c169 => ?_) (fun c169 => ?_)
        · have hO := ok_pos c169 hO
          obtain ⟨g170, hO⟩ := ok_if hO
          obtain ⟨g171, hO⟩ := ok_if hO
          obtain ⟨g172, hO⟩ := ok_if hO
          obtain ⟨g173, hO⟩ := ok_if hO
          obtain ⟨g174, hO⟩ := ok_if hO
          obtain ⟨g175, hO⟩ := ok_if hO
          refine rb hG 34 712 744 [.aload 1, .aload 0, .iload 3, .ldc_w 0, .iadd, .faload, .aload 0, .iload 3, .ldc_w 1, .iadd, .faload, .aload 0, .iload 3, .ldc_w 2, .iadd, .faload, .aload 0, .iload 3, .ldc_w 3, .iadd, .faload, .aload 0, .iload 3, .ldc_w 4, .iadd, .faload, .aload 0, .iload 3, .ldc_w 5, .iadd, .faload] [1, 2, 3, 4, 5, 6] [] [(0, .ref 300), (1, .ref 1), (2, .ref 251), (3, .int x3)] [.int ((eS E).1 (Int32.toNatClampNeg (x3 + (6 : Int32)))), .int ((eS E).1 (Int32.toNatClampNeg (x3 + (5 : Int32)))), .int ((eS E).1 (Int32.toNatClampNeg (x3 + (4 : Int32)))), .int ((eS E).1 (Int32.toNatClampNeg (x3 + (3 : Int32)))), .int ((eS E).1 (Int32.toNatClampNeg (x3 + (2 : Int32)))), .int ((eS E).1 (Int32.toNatClampNeg (x3 + (1 : Int32)))), .ref 1] h [300 = 300 ∧ inb (x3 + (1 : Int32)) (eS E).2, 300 = 300 ∧ inb (x3 + (2 : Int32)) (eS E).2, 300 = 300 ∧ inb (x3 + (3 : Int32)) (eS E).2, 300 = 300 ∧ inb (x3 + (4 : Int32)) (eS E).2, 300 = 300 ∧ inb (x3 + (5 : Int32)) (eS E).2, 300 = 300 ∧ inb (x3 + (6 : Int32)) (eS E).2] (by decide +kernel) rfl ⟨⟨rfl, g170⟩, ⟨rfl, g171⟩, ⟨rfl, g172⟩, ⟨rfl, g173⟩, ⟨rfl, g174⟩, ⟨rfl, g175⟩⟩ ?_
          refine rv hG z_K_comes 67 6 744 1 [.int ((eS E).1 (Int32.toNatClampNeg (x3 + (1 : Int32)))), .int ((eS E).1 (Int32.toNatClampNeg (x3 + (2 : Int32)))), .int ((eS E).1 (Int32.toNatClampNeg (x3 + (3 : Int32)))), .int ((eS E).1 (Int32.toNatClampNeg (x3 + (4 : Int32)))), .int ((eS E).1 (Int32.toNatClampNeg (x3 + (5 : Int32)))), .int ((eS E).1 (Int32.toNatClampNeg (x3 + (6 : Int32))))] [] (by decide +kernel) mk_K_comes lk_13_67 rcv_1 rfl ⟨rfl, Nat.le_of_ble_eq_true rfl⟩ (c_K_comes (d := d + 8) h ((eS E).1 (Int32.toNatClampNeg (x3 + (1 : Int32)))) ((eS E).1 (Int32.toNatClampNeg (x3 + (2 : Int32)))) ((eS E).1 (Int32.toNatClampNeg (x3 + (3 : Int32)))) ((eS E).1 (Int32.toNatClampNeg (x3 + (4 : Int32)))) ((eS E).1 (Int32.toNatClampNeg (x3 + (5 : Int32)))) ((eS E).1 (Int32.toNatClampNeg (x3 + (6 : Int32)))) (ok_bind hO)) ?_
          rintro _ h177 ⟨r176, rfl, hO⟩
          obtain ⟨g178, hO⟩ := ok_if hO
          obtain ⟨g179, hO⟩ := ok_if hO
          obtain ⟨g180, hO⟩ := ok_if hO
          obtain ⟨g181, hO⟩ := ok_if hO
          obtain ⟨g182, hO⟩ := ok_if hO
          obtain ⟨g183, hO⟩ := ok_if hO
          refine rb hG 34 747 779 [.aload 2, .aload 0, .iload 3, .ldc_w 0, .iadd, .faload, .aload 0, .iload 3, .ldc_w 1, .iadd, .faload, .aload 0, .iload 3, .ldc_w 2, .iadd, .faload, .aload 0, .iload 3, .ldc_w 3, .iadd, .faload, .aload 0, .iload 3, .ldc_w 4, .iadd, .faload, .aload 0, .iload 3, .ldc_w 5, .iadd, .faload] [1, 2, 3, 4, 5, 6] [] [(0, .ref 300), (1, .ref 1), (2, .ref 251), (3, .int x3)] [.int ((eS E).1 (Int32.toNatClampNeg (x3 + (6 : Int32)))), .int ((eS E).1 (Int32.toNatClampNeg (x3 + (5 : Int32)))), .int ((eS E).1 (Int32.toNatClampNeg (x3 + (4 : Int32)))), .int ((eS E).1 (Int32.toNatClampNeg (x3 + (3 : Int32)))), .int ((eS E).1 (Int32.toNatClampNeg (x3 + (2 : Int32)))), .int ((eS E).1 (Int32.toNatClampNeg (x3 + (1 : Int32)))), .ref 251, .int r176] h177 [300 = 300 ∧ inb (x3 + (1 : Int32)) (eS E).2, 300 = 300 ∧ inb (x3 + (2 : Int32)) (eS E).2, 300 = 300 ∧ inb (x3 + (3 : Int32)) (eS E).2, 300 = 300 ∧ inb (x3 + (4 : Int32)) (eS E).2, 300 = 300 ∧ inb (x3 + (5 : Int32)) (eS E).2, 300 = 300 ∧ inb (x3 + (6 : Int32)) (eS E).2] (by decide +kernel) rfl ⟨⟨rfl, g178⟩, ⟨rfl, g179⟩, ⟨rfl, g180⟩, ⟨rfl, g181⟩, ⟨rfl, g182⟩, ⟨rfl, g183⟩⟩ ?_
          refine rv hG z_M_comes 70 6 779 251 [.int ((eS E).1 (Int32.toNatClampNeg (x3 + (1 : Int32)))), .int ((eS E).1 (Int32.toNatClampNeg (x3 + (2 : Int32)))), .int ((eS E).1 (Int32.toNatClampNeg (x3 + (3 : Int32)))), .int ((eS E).1 (Int32.toNatClampNeg (x3 + (4 : Int32)))), .int ((eS E).1 (Int32.toNatClampNeg (x3 + (5 : Int32)))), .int ((eS E).1 (Int32.toNatClampNeg (x3 + (6 : Int32))))] [.int r176] (by decide +kernel) mk_M_comes lk_13_70 rcv_251 rfl ⟨rfl, Nat.le_of_ble_eq_true rfl⟩ (c_M_comes (d := d + 7) h177 ((eS E).1 (Int32.toNatClampNeg (x3 + (1 : Int32)))) ((eS E).1 (Int32.toNatClampNeg (x3 + (2 : Int32)))) ((eS E).1 (Int32.toNatClampNeg (x3 + (3 : Int32)))) ((eS E).1 (Int32.toNatClampNeg (x3 + (4 : Int32)))) ((eS E).1 (Int32.toNatClampNeg (x3 + (5 : Int32)))) ((eS E).1 (Int32.toNatClampNeg (x3 + (6 : Int32)))) (ok_bind hO)) ?_
          rintro _ h185 ⟨r184, rfl, hO⟩
          refine rj hG .eq (861) 1643 782 (by decide +kernel) (by decide) (fun c186 => ?_) (fun c186 => ?_)
          · have hO := ok_pos c186 hO
            exact j1643 x3 h185 hO
          · have hO := ok_neg c186 hO
            refine rs hG [] [] rfl ?_
            exact j785 h185 (ok_inr hO)
        have hO := ok_neg c169 hO
        refine sw_c (13 : Int32) (by decide) (fun c187 => ?_) (fun c187 => ?_)
        · have hO := ok_pos c187 hO
          obtain ⟨g188, hO⟩ := ok_if hO
          obtain ⟨g189, hO⟩ := ok_if hO
          obtain ⟨g190, hO⟩ := ok_if hO
          obtain ⟨g191, hO⟩ := ok_if hO
          obtain ⟨g192, hO⟩ := ok_if hO
          refine rb hG 29 787 813 [.aload 1, .aload 0, .iload 3, .ldc_w 0, .iadd, .faload, .aload 0, .iload 3, .ldc_w 1, .iadd, .faload, .aload 0, .iload 3, .ldc_w 2, .iadd, .faload, .aload 0, .iload 3, .ldc_w 3, .iadd, .faload, .aload 0, .iload 3, .ldc_w 4, .iadd, .faload] [1, 2, 3, 4, 5] [] [(0, .ref 300), (1, .ref 1), (2, .ref 251), (3, .int x3)] [.int ((eS E).1 (Int32.toNatClampNeg (x3 + (5 : Int32)))), .int ((eS E).1 (Int32.toNatClampNeg (x3 + (4 : Int32)))), .int ((eS E).1 (Int32.toNatClampNeg (x3 + (3 : Int32)))), .int ((eS E).1 (Int32.toNatClampNeg (x3 + (2 : Int32)))), .int ((eS E).1 (Int32.toNatClampNeg (x3 + (1 : Int32)))), .ref 1] h [300 = 300 ∧ inb (x3 + (1 : Int32)) (eS E).2, 300 = 300 ∧ inb (x3 + (2 : Int32)) (eS E).2, 300 = 300 ∧ inb (x3 + (3 : Int32)) (eS E).2, 300 = 300 ∧ inb (x3 + (4 : Int32)) (eS E).2, 300 = 300 ∧ inb (x3 + (5 : Int32)) (eS E).2] (by decide +kernel) rfl ⟨⟨rfl, g188⟩, ⟨rfl, g189⟩, ⟨rfl, g190⟩, ⟨rfl, g191⟩, ⟨rfl, g192⟩⟩ ?_
          refine rv hG z_K_cuts 71 5 813 1 [.int ((eS E).1 (Int32.toNatClampNeg (x3 + (1 : Int32)))), .int ((eS E).1 (Int32.toNatClampNeg (x3 + (2 : Int32)))), .int ((eS E).1 (Int32.toNatClampNeg (x3 + (3 : Int32)))), .int ((eS E).1 (Int32.toNatClampNeg (x3 + (4 : Int32)))), .int ((eS E).1 (Int32.toNatClampNeg (x3 + (5 : Int32))))] [] (by decide +kernel) mk_K_cuts lk_13_71 rcv_1 rfl ⟨rfl, Nat.le_of_ble_eq_true rfl⟩ (c_K_cuts (d := d + 8) h ((eS E).1 (Int32.toNatClampNeg (x3 + (1 : Int32)))) ((eS E).1 (Int32.toNatClampNeg (x3 + (2 : Int32)))) ((eS E).1 (Int32.toNatClampNeg (x3 + (3 : Int32)))) ((eS E).1 (Int32.toNatClampNeg (x3 + (4 : Int32)))) ((eS E).1 (Int32.toNatClampNeg (x3 + (5 : Int32)))) (ok_bind hO)) ?_
          rintro _ h194 ⟨r193, rfl, hO⟩
          obtain ⟨g195, hO⟩ := ok_if hO
          obtain ⟨g196, hO⟩ := ok_if hO
          obtain ⟨g197, hO⟩ := ok_if hO
          obtain ⟨g198, hO⟩ := ok_if hO
          obtain ⟨g199, hO⟩ := ok_if hO
          refine rb hG 29 816 842 [.aload 2, .aload 0, .iload 3, .ldc_w 0, .iadd, .faload, .aload 0, .iload 3, .ldc_w 1, .iadd, .faload, .aload 0, .iload 3, .ldc_w 2, .iadd, .faload, .aload 0, .iload 3, .ldc_w 3, .iadd, .faload, .aload 0, .iload 3, .ldc_w 4, .iadd, .faload] [1, 2, 3, 4, 5] [] [(0, .ref 300), (1, .ref 1), (2, .ref 251), (3, .int x3)] [.int ((eS E).1 (Int32.toNatClampNeg (x3 + (5 : Int32)))), .int ((eS E).1 (Int32.toNatClampNeg (x3 + (4 : Int32)))), .int ((eS E).1 (Int32.toNatClampNeg (x3 + (3 : Int32)))), .int ((eS E).1 (Int32.toNatClampNeg (x3 + (2 : Int32)))), .int ((eS E).1 (Int32.toNatClampNeg (x3 + (1 : Int32)))), .ref 251, .int r193] h194 [300 = 300 ∧ inb (x3 + (1 : Int32)) (eS E).2, 300 = 300 ∧ inb (x3 + (2 : Int32)) (eS E).2, 300 = 300 ∧ inb (x3 + (3 : Int32)) (eS E).2, 300 = 300 ∧ inb (x3 + (4 : Int32)) (eS E).2, 300 = 300 ∧ inb (x3 + (5 : Int32)) (eS E).2] (by decide +kernel) rfl ⟨⟨rfl, g195⟩, ⟨rfl, g196⟩, ⟨rfl, g197⟩, ⟨rfl, g198⟩, ⟨rfl, g199⟩⟩ ?_
          refine rv hG z_M_cuts 74 5 842 251 [.int ((eS E).1 (Int32.toNatClampNeg (x3 + (1 : Int32)))), .int ((eS E).1 (Int32.toNatClampNeg (x3 + (2 : Int32)))), .int ((eS E).1 (Int32.toNatClampNeg (x3 + (3 : Int32)))), .int ((eS E).1 (Int32.toNatClampNeg (x3 + (4 : Int32)))), .int ((eS E).1 (Int32.toNatClampNeg (x3 + (5 : Int32))))] [.int r193] (by decide +kernel) mk_M_cuts lk_13_74 rcv_251 rfl ⟨rfl, Nat.le_of_ble_eq_true rfl⟩ (c_M_cuts (d := d + 7) h194 ((eS E).1 (Int32.toNatClampNeg (x3 + (1 : Int32)))) ((eS E).1 (Int32.toNatClampNeg (x3 + (2 : Int32)))) ((eS E).1 (Int32.toNatClampNeg (x3 + (3 : Int32)))) ((eS E).1 (Int32.toNatClampNeg (x3 + (4 : Int32)))) ((eS E).1 (Int32.toNatClampNeg (x3 + (5 : Int32)))) (ok_bind hO)) ?_
          rintro _ h201 ⟨r200, rfl, hO⟩
          refine rj hG .eq (798) 1643 845 (by decide +kernel) (by decide) (fun c202 => ?_) (fun c202 => ?_)
          · have hO := ok_pos c202 hO
            exact j1643 x3 h201 hO
          · have hO := ok_neg c202 hO
            refine rs hG [] [] rfl ?_
            exact j848 h201 (ok_inr hO)
        have hO := ok_neg c187 hO
        refine sw_c (14 : Int32) (by decide) (fun c203 => ?_) (fun c203 => ?_)
        · have hO := ok_pos c203 hO
          obtain ⟨g204, hO⟩ := ok_if hO
          obtain ⟨g205, hO⟩ := ok_if hO
          refine rb hG 14 850 861 [.aload 1, .aload 0, .iload 3, .ldc_w 0, .iadd, .faload, .aload 0, .iload 3, .ldc_w 1, .iadd, .faload] [1, 2] [] [(0, .ref 300), (1, .ref 1), (2, .ref 251), (3, .int x3)] [.int ((eS E).1 (Int32.toNatClampNeg (x3 + (2 : Int32)))), .int ((eS E).1 (Int32.toNatClampNeg (x3 + (1 : Int32)))), .ref 1] h [300 = 300 ∧ inb (x3 + (1 : Int32)) (eS E).2, 300 = 300 ∧ inb (x3 + (2 : Int32)) (eS E).2] (by decide +kernel) rfl ⟨⟨rfl, g204⟩, ⟨rfl, g205⟩⟩ ?_
          refine rv hG z_K_heard 75 2 861 1 [.int ((eS E).1 (Int32.toNatClampNeg (x3 + (1 : Int32)))), .int ((eS E).1 (Int32.toNatClampNeg (x3 + (2 : Int32))))] [] (by decide +kernel) mk_K_heard lk_13_75 rcv_1 rfl ⟨rfl, Nat.le_of_ble_eq_true rfl⟩ (c_K_heard (d := d + 11) h ((eS E).1 (Int32.toNatClampNeg (x3 + (1 : Int32)))) ((eS E).1 (Int32.toNatClampNeg (x3 + (2 : Int32)))) (ok_bind hO)) ?_
          rintro _ _ ⟨r206, rfl, rfl, hO⟩
          obtain ⟨g207, hO⟩ := ok_if hO
          obtain ⟨g208, hO⟩ := ok_if hO
          refine rb hG 14 864 875 [.aload 2, .aload 0, .iload 3, .ldc_w 0, .iadd, .faload, .aload 0, .iload 3, .ldc_w 1, .iadd, .faload] [1, 2] [] [(0, .ref 300), (1, .ref 1), (2, .ref 251), (3, .int x3)] [.int ((eS E).1 (Int32.toNatClampNeg (x3 + (2 : Int32)))), .int ((eS E).1 (Int32.toNatClampNeg (x3 + (1 : Int32)))), .ref 251, .int r206] h [300 = 300 ∧ inb (x3 + (1 : Int32)) (eS E).2, 300 = 300 ∧ inb (x3 + (2 : Int32)) (eS E).2] (by decide +kernel) rfl ⟨⟨rfl, g207⟩, ⟨rfl, g208⟩⟩ ?_
          refine rv hG z_M_heard 78 2 875 251 [.int ((eS E).1 (Int32.toNatClampNeg (x3 + (1 : Int32)))), .int ((eS E).1 (Int32.toNatClampNeg (x3 + (2 : Int32))))] [.int r206] (by decide +kernel) mk_M_heard lk_13_78 rcv_251 rfl ⟨rfl, Nat.le_of_ble_eq_true rfl⟩ (c_M_heard (d := d + 12) h ((eS E).1 (Int32.toNatClampNeg (x3 + (1 : Int32)))) ((eS E).1 (Int32.toNatClampNeg (x3 + (2 : Int32)))) (ok_bind hO)) ?_
          rintro _ h210 ⟨r209, rfl, hO⟩
          refine rj hG .eq (765) 1643 878 (by decide +kernel) (by decide) (fun c211 => ?_) (fun c211 => ?_)
          · have hO := ok_pos c211 hO
            exact j1643 x3 h210 hO
          · have hO := ok_neg c211 hO
            refine rs hG [] [] rfl ?_
            exact j881 h210 (ok_inr hO)
        have hO := ok_neg c203 hO
        refine sw_c (15 : Int32) (by decide) (fun c212 => ?_) (fun c212 => ?_)
        · have hO := ok_pos c212 hO
          obtain ⟨g213, hO⟩ := ok_if hO
          obtain ⟨g214, hO⟩ := ok_if hO
          obtain ⟨g215, hO⟩ := ok_if hO
          obtain ⟨g216, hO⟩ := ok_if hO
          refine rb hG 24 883 904 [.aload 1, .aload 0, .iload 3, .ldc_w 0, .iadd, .faload, .aload 0, .iload 3, .ldc_w 1, .iadd, .faload, .aload 0, .iload 3, .ldc_w 2, .iadd, .faload, .aload 0, .iload 3, .ldc_w 3, .iadd, .faload] [1, 2, 3, 4] [] [(0, .ref 300), (1, .ref 1), (2, .ref 251), (3, .int x3)] [.int ((eS E).1 (Int32.toNatClampNeg (x3 + (4 : Int32)))), .int ((eS E).1 (Int32.toNatClampNeg (x3 + (3 : Int32)))), .int ((eS E).1 (Int32.toNatClampNeg (x3 + (2 : Int32)))), .int ((eS E).1 (Int32.toNatClampNeg (x3 + (1 : Int32)))), .ref 1] h [300 = 300 ∧ inb (x3 + (1 : Int32)) (eS E).2, 300 = 300 ∧ inb (x3 + (2 : Int32)) (eS E).2, 300 = 300 ∧ inb (x3 + (3 : Int32)) (eS E).2, 300 = 300 ∧ inb (x3 + (4 : Int32)) (eS E).2] (by decide +kernel) rfl ⟨⟨rfl, g213⟩, ⟨rfl, g214⟩, ⟨rfl, g215⟩, ⟨rfl, g216⟩⟩ ?_
          refine rv hG z_K_fits 79 4 904 1 [.int ((eS E).1 (Int32.toNatClampNeg (x3 + (1 : Int32)))), .int ((eS E).1 (Int32.toNatClampNeg (x3 + (2 : Int32)))), .int ((eS E).1 (Int32.toNatClampNeg (x3 + (3 : Int32)))), .int ((eS E).1 (Int32.toNatClampNeg (x3 + (4 : Int32))))] [] (by decide +kernel) mk_K_fits lk_13_79 rcv_1 rfl ⟨rfl, Nat.le_of_ble_eq_true rfl⟩ (c_K_fits (d := d + 11) h ((eS E).1 (Int32.toNatClampNeg (x3 + (1 : Int32)))) ((eS E).1 (Int32.toNatClampNeg (x3 + (2 : Int32)))) ((eS E).1 (Int32.toNatClampNeg (x3 + (3 : Int32)))) ((eS E).1 (Int32.toNatClampNeg (x3 + (4 : Int32)))) (ok_bind hO)) ?_
          rintro _ h218 ⟨r217, rfl, hO⟩
          obtain ⟨g219, hO⟩ := ok_if hO
          obtain ⟨g220, hO⟩ := ok_if hO
          obtain ⟨g221, hO⟩ := ok_if hO
          obtain ⟨g222, hO⟩ := ok_if hO
          refine rb hG 24 907 928 [.aload 2, .aload 0, .iload 3, .ldc_w 0, .iadd, .faload, .aload 0, .iload 3, .ldc_w 1, .iadd, .faload, .aload 0, .iload 3, .ldc_w 2, .iadd, .faload, .aload 0, .iload 3, .ldc_w 3, .iadd, .faload] [1, 2, 3, 4] [] [(0, .ref 300), (1, .ref 1), (2, .ref 251), (3, .int x3)] [.int ((eS E).1 (Int32.toNatClampNeg (x3 + (4 : Int32)))), .int ((eS E).1 (Int32.toNatClampNeg (x3 + (3 : Int32)))), .int ((eS E).1 (Int32.toNatClampNeg (x3 + (2 : Int32)))), .int ((eS E).1 (Int32.toNatClampNeg (x3 + (1 : Int32)))), .ref 251, .int r217] h218 [300 = 300 ∧ inb (x3 + (1 : Int32)) (eS E).2, 300 = 300 ∧ inb (x3 + (2 : Int32)) (eS E).2, 300 = 300 ∧ inb (x3 + (3 : Int32)) (eS E).2, 300 = 300 ∧ inb (x3 + (4 : Int32)) (eS E).2] (by decide +kernel) rfl ⟨⟨rfl, g219⟩, ⟨rfl, g220⟩, ⟨rfl, g221⟩, ⟨rfl, g222⟩⟩ ?_
          refine rv hG z_M_fits 82 4 928 251 [.int ((eS E).1 (Int32.toNatClampNeg (x3 + (1 : Int32)))), .int ((eS E).1 (Int32.toNatClampNeg (x3 + (2 : Int32)))), .int ((eS E).1 (Int32.toNatClampNeg (x3 + (3 : Int32)))), .int ((eS E).1 (Int32.toNatClampNeg (x3 + (4 : Int32))))] [.int r217] (by decide +kernel) mk_M_fits lk_13_82 rcv_251 rfl ⟨rfl, Nat.le_of_ble_eq_true rfl⟩ (c_M_fits (d := d + 12) h218 ((eS E).1 (Int32.toNatClampNeg (x3 + (1 : Int32)))) ((eS E).1 (Int32.toNatClampNeg (x3 + (2 : Int32)))) ((eS E).1 (Int32.toNatClampNeg (x3 + (3 : Int32)))) ((eS E).1 (Int32.toNatClampNeg (x3 + (4 : Int32)))) (ok_bind hO)) ?_
          rintro _ h224 ⟨r223, rfl, hO⟩
          refine rj hG .eq (712) 1643 931 (by decide +kernel) (by decide) (fun c225 => ?_) (fun c225 => ?_)
          · have hO := ok_pos c225 hO
            exact j1643 x3 h224 hO
          · have hO := ok_neg c225 hO
            refine rs hG [] [] rfl ?_
            exact j934 h224 (ok_inr hO)
        have hO := ok_neg c212 hO
        refine sw_c (16 : Int32) (by decide) (fun c226 => ?_) (fun c226 => ?_)
        · have hO := ok_pos c226 hO
          obtain ⟨g227, hO⟩ := ok_if hO
          obtain ⟨g228, hO⟩ := ok_if hO
          obtain ⟨g229, hO⟩ := ok_if hO
          obtain ⟨g230, hO⟩ := ok_if hO
          obtain ⟨g231, hO⟩ := ok_if hO
          obtain ⟨g232, hO⟩ := ok_if hO
          obtain ⟨g233, hO⟩ := ok_if hO
          refine rb hG 39 936 974 [.aload 1, .aload 0, .iload 3, .ldc_w 0, .iadd, .faload, .aload 0, .iload 3, .ldc_w 1, .iadd, .faload, .aload 0, .iload 3, .ldc_w 2, .iadd, .faload, .aload 0, .iload 3, .ldc_w 3, .iadd, .faload, .aload 0, .iload 3, .ldc_w 4, .iadd, .faload, .aload 0, .iload 3, .ldc_w 5, .iadd, .faload, .aload 0, .iload 3, .ldc_w 6, .iadd, .faload] [1, 2, 3, 4, 5, 6, 7] [] [(0, .ref 300), (1, .ref 1), (2, .ref 251), (3, .int x3)] [.int ((eS E).1 (Int32.toNatClampNeg (x3 + (7 : Int32)))), .int ((eS E).1 (Int32.toNatClampNeg (x3 + (6 : Int32)))), .int ((eS E).1 (Int32.toNatClampNeg (x3 + (5 : Int32)))), .int ((eS E).1 (Int32.toNatClampNeg (x3 + (4 : Int32)))), .int ((eS E).1 (Int32.toNatClampNeg (x3 + (3 : Int32)))), .int ((eS E).1 (Int32.toNatClampNeg (x3 + (2 : Int32)))), .int ((eS E).1 (Int32.toNatClampNeg (x3 + (1 : Int32)))), .ref 1] h [300 = 300 ∧ inb (x3 + (1 : Int32)) (eS E).2, 300 = 300 ∧ inb (x3 + (2 : Int32)) (eS E).2, 300 = 300 ∧ inb (x3 + (3 : Int32)) (eS E).2, 300 = 300 ∧ inb (x3 + (4 : Int32)) (eS E).2, 300 = 300 ∧ inb (x3 + (5 : Int32)) (eS E).2, 300 = 300 ∧ inb (x3 + (6 : Int32)) (eS E).2, 300 = 300 ∧ inb (x3 + (7 : Int32)) (eS E).2] (by decide +kernel) rfl ⟨⟨rfl, g227⟩, ⟨rfl, g228⟩, ⟨rfl, g229⟩, ⟨rfl, g230⟩, ⟨rfl, g231⟩, ⟨rfl, g232⟩, ⟨rfl, g233⟩⟩ ?_
          refine rv hG z_K_gain 83 7 974 1 [.int ((eS E).1 (Int32.toNatClampNeg (x3 + (1 : Int32)))), .int ((eS E).1 (Int32.toNatClampNeg (x3 + (2 : Int32)))), .int ((eS E).1 (Int32.toNatClampNeg (x3 + (3 : Int32)))), .int ((eS E).1 (Int32.toNatClampNeg (x3 + (4 : Int32)))), .int ((eS E).1 (Int32.toNatClampNeg (x3 + (5 : Int32)))), .int ((eS E).1 (Int32.toNatClampNeg (x3 + (6 : Int32)))), .int ((eS E).1 (Int32.toNatClampNeg (x3 + (7 : Int32))))] [] (by decide +kernel) mk_K_gain lk_13_83 rcv_1 rfl ⟨rfl, Nat.le_of_ble_eq_true rfl⟩ (c_K_gain (d := d + 8) h ((eS E).1 (Int32.toNatClampNeg (x3 + (1 : Int32)))) ((eS E).1 (Int32.toNatClampNeg (x3 + (2 : Int32)))) ((eS E).1 (Int32.toNatClampNeg (x3 + (3 : Int32)))) ((eS E).1 (Int32.toNatClampNeg (x3 + (4 : Int32)))) ((eS E).1 (Int32.toNatClampNeg (x3 + (5 : Int32)))) ((eS E).1 (Int32.toNatClampNeg (x3 + (6 : Int32)))) ((eS E).1 (Int32.toNatClampNeg (x3 + (7 : Int32)))) (ok_bind hO)) ?_
          rintro _ h235 ⟨r234, rfl, hO⟩
          obtain ⟨g236, hO⟩ := ok_if hO
          obtain ⟨g237, hO⟩ := ok_if hO
          obtain ⟨g238, hO⟩ := ok_if hO
          obtain ⟨g239, hO⟩ := ok_if hO
          obtain ⟨g240, hO⟩ := ok_if hO
          obtain ⟨g241, hO⟩ := ok_if hO
          obtain ⟨g242, hO⟩ := ok_if hO
          refine rb hG 39 977 1015 [.aload 2, .aload 0, .iload 3, .ldc_w 0, .iadd, .faload, .aload 0, .iload 3, .ldc_w 1, .iadd, .faload, .aload 0, .iload 3, .ldc_w 2, .iadd, .faload, .aload 0, .iload 3, .ldc_w 3, .iadd, .faload, .aload 0, .iload 3, .ldc_w 4, .iadd, .faload, .aload 0, .iload 3, .ldc_w 5, .iadd, .faload, .aload 0, .iload 3, .ldc_w 6, .iadd, .faload] [1, 2, 3, 4, 5, 6, 7] [] [(0, .ref 300), (1, .ref 1), (2, .ref 251), (3, .int x3)] [.int ((eS E).1 (Int32.toNatClampNeg (x3 + (7 : Int32)))), .int ((eS E).1 (Int32.toNatClampNeg (x3 + (6 : Int32)))), .int ((eS E).1 (Int32.toNatClampNeg (x3 + (5 : Int32)))), .int ((eS E).1 (Int32.toNatClampNeg (x3 + (4 : Int32)))), .int ((eS E).1 (Int32.toNatClampNeg (x3 + (3 : Int32)))), .int ((eS E).1 (Int32.toNatClampNeg (x3 + (2 : Int32)))), .int ((eS E).1 (Int32.toNatClampNeg (x3 + (1 : Int32)))), .ref 251, .int r234] h235 [300 = 300 ∧ inb (x3 + (1 : Int32)) (eS E).2, 300 = 300 ∧ inb (x3 + (2 : Int32)) (eS E).2, 300 = 300 ∧ inb (x3 + (3 : Int32)) (eS E).2, 300 = 300 ∧ inb (x3 + (4 : Int32)) (eS E).2, 300 = 300 ∧ inb (x3 + (5 : Int32)) (eS E).2, 300 = 300 ∧ inb (x3 + (6 : Int32)) (eS E).2, 300 = 300 ∧ inb (x3 + (7 : Int32)) (eS E).2] (by decide +kernel) rfl ⟨⟨rfl, g236⟩, ⟨rfl, g237⟩, ⟨rfl, g238⟩, ⟨rfl, g239⟩, ⟨rfl, g240⟩, ⟨rfl, g241⟩, ⟨rfl, g242⟩⟩ ?_
          refine rv hG z_M_gain 87 7 1015 251 [.int ((eS E).1 (Int32.toNatClampNeg (x3 + (1 : Int32)))), .int ((eS E).1 (Int32.toNatClampNeg (x3 + (2 : Int32)))), .int ((eS E).1 (Int32.toNatClampNeg (x3 + (3 : Int32)))), .int ((eS E).1 (Int32.toNatClampNeg (x3 + (4 : Int32)))), .int ((eS E).1 (Int32.toNatClampNeg (x3 + (5 : Int32)))), .int ((eS E).1 (Int32.toNatClampNeg (x3 + (6 : Int32)))), .int ((eS E).1 (Int32.toNatClampNeg (x3 + (7 : Int32))))] [.int r234] (by decide +kernel) mk_M_gain lk_13_87 rcv_251 rfl ⟨rfl, Nat.le_of_ble_eq_true rfl⟩ (c_M_gain (d := d + 7) h235 ((eS E).1 (Int32.toNatClampNeg (x3 + (1 : Int32)))) ((eS E).1 (Int32.toNatClampNeg (x3 + (2 : Int32)))) ((eS E).1 (Int32.toNatClampNeg (x3 + (3 : Int32)))) ((eS E).1 (Int32.toNatClampNeg (x3 + (4 : Int32)))) ((eS E).1 (Int32.toNatClampNeg (x3 + (5 : Int32)))) ((eS E).1 (Int32.toNatClampNeg (x3 + (6 : Int32)))) ((eS E).1 (Int32.toNatClampNeg (x3 + (7 : Int32)))) (ok_bind hO)) ?_
          rintro _ h244 ⟨r243, rfl, hO⟩
          refine rj hG .eq (625) 1643 1018 (by decide +kernel) (by decide) (fun c245 => ?_) (fun c245 => ?_)
          · have hO := ok_pos c245 hO
            exact j1643 x3 h244 hO
          · have hO := ok_neg c245 hO
            refine rs hG [] [] rfl ?_
            exact j1021 h244 (ok_inr hO)
        have hO := ok_neg c226 hO
        refine sw_c (17 : Int32) (by decide) (fun c246 => ?_) (fun c246 => ?_)
        · have hO := ok_pos c246 hO
          obtain ⟨g247, hO⟩ := ok_if hO
          obtain ⟨g248, hO⟩ := ok_if hO
          obtain ⟨g249, hO⟩ := ok_if hO
          obtain ⟨g250, hO⟩ := ok_if hO
          obtain ⟨g251, hO⟩ := ok_if hO
          obtain ⟨g252, hO⟩ := ok_if hO
          refine rb hG 34 1023 1055 [.aload 1, .aload 0, .iload 3, .ldc_w 0, .iadd, .faload, .aload 0, .iload 3, .ldc_w 1, .iadd, .faload, .aload 0, .iload 3, .ldc_w 2, .iadd, .faload, .aload 0, .iload 3, .ldc_w 3, .iadd, .faload, .aload 0, .iload 3, .ldc_w 4, .iadd, .faload, .aload 0, .iload 3, .ldc_w 5, .iadd, .faload] [1, 2, 3, 4, 5, 6] [] [(0, .ref 300), (1, .ref 1), (2, .ref 251), (3, .int x3)] [.int ((eS E).1 (Int32.toNatClampNeg (x3 + (6 : Int32)))), .int ((eS E).1 (Int32.toNatClampNeg (x3 + (5 : Int32)))), .int ((eS E).1 (Int32.toNatClampNeg (x3 + (4 : Int32)))), .int ((eS E).1 (Int32.toNatClampNeg (x3 + (3 : Int32)))), .int ((eS E).1 (Int32.toNatClampNeg (x3 + (2 : Int32)))), .int ((eS E).1 (Int32.toNatClampNeg (x3 + (1 : Int32)))), .ref 1] h [300 = 300 ∧ inb (x3 + (1 : Int32)) (eS E).2, 300 = 300 ∧ inb (x3 + (2 : Int32)) (eS E).2, 300 = 300 ∧ inb (x3 + (3 : Int32)) (eS E).2, 300 = 300 ∧ inb (x3 + (4 : Int32)) (eS E).2, 300 = 300 ∧ inb (x3 + (5 : Int32)) (eS E).2, 300 = 300 ∧ inb (x3 + (6 : Int32)) (eS E).2] (by decide +kernel) rfl ⟨⟨rfl, g247⟩, ⟨rfl, g248⟩, ⟨rfl, g249⟩, ⟨rfl, g250⟩, ⟨rfl, g251⟩, ⟨rfl, g252⟩⟩ ?_
          refine rv hG z_K_rest 88 6 1055 1 [.int ((eS E).1 (Int32.toNatClampNeg (x3 + (1 : Int32)))), .int ((eS E).1 (Int32.toNatClampNeg (x3 + (2 : Int32)))), .int ((eS E).1 (Int32.toNatClampNeg (x3 + (3 : Int32)))), .int ((eS E).1 (Int32.toNatClampNeg (x3 + (4 : Int32)))), .int ((eS E).1 (Int32.toNatClampNeg (x3 + (5 : Int32)))), .int ((eS E).1 (Int32.toNatClampNeg (x3 + (6 : Int32))))] [] (by decide +kernel) mk_K_rest lk_13_88 rcv_1 rfl ⟨rfl, Nat.le_of_ble_eq_true rfl⟩ (c_K_rest (d := d + 8) h ((eS E).1 (Int32.toNatClampNeg (x3 + (1 : Int32)))) ((eS E).1 (Int32.toNatClampNeg (x3 + (2 : Int32)))) ((eS E).1 (Int32.toNatClampNeg (x3 + (3 : Int32)))) ((eS E).1 (Int32.toNatClampNeg (x3 + (4 : Int32)))) ((eS E).1 (Int32.toNatClampNeg (x3 + (5 : Int32)))) ((eS E).1 (Int32.toNatClampNeg (x3 + (6 : Int32)))) (ok_bind hO)) ?_
          rintro _ h254 ⟨r253, rfl, hO⟩
          obtain ⟨g255, hO⟩ := ok_if hO
          obtain ⟨g256, hO⟩ := ok_if hO
          obtain ⟨g257, hO⟩ := ok_if hO
          obtain ⟨g258, hO⟩ := ok_if hO
          obtain ⟨g259, hO⟩ := ok_if hO
          obtain ⟨g260, hO⟩ := ok_if hO
          refine rb hG 34 1058 1090 [.aload 2, .aload 0, .iload 3, .ldc_w 0, .iadd, .faload, .aload 0, .iload 3, .ldc_w 1, .iadd, .faload, .aload 0, .iload 3, .ldc_w 2, .iadd, .faload, .aload 0, .iload 3, .ldc_w 3, .iadd, .faload, .aload 0, .iload 3, .ldc_w 4, .iadd, .faload, .aload 0, .iload 3, .ldc_w 5, .iadd, .faload] [1, 2, 3, 4, 5, 6] [] [(0, .ref 300), (1, .ref 1), (2, .ref 251), (3, .int x3)] [.int ((eS E).1 (Int32.toNatClampNeg (x3 + (6 : Int32)))), .int ((eS E).1 (Int32.toNatClampNeg (x3 + (5 : Int32)))), .int ((eS E).1 (Int32.toNatClampNeg (x3 + (4 : Int32)))), .int ((eS E).1 (Int32.toNatClampNeg (x3 + (3 : Int32)))), .int ((eS E).1 (Int32.toNatClampNeg (x3 + (2 : Int32)))), .int ((eS E).1 (Int32.toNatClampNeg (x3 + (1 : Int32)))), .ref 251, .int r253] h254 [300 = 300 ∧ inb (x3 + (1 : Int32)) (eS E).2, 300 = 300 ∧ inb (x3 + (2 : Int32)) (eS E).2, 300 = 300 ∧ inb (x3 + (3 : Int32)) (eS E).2, 300 = 300 ∧ inb (x3 + (4 : Int32)) (eS E).2, 300 = 300 ∧ inb (x3 + (5 : Int32)) (eS E).2, 300 = 300 ∧ inb (x3 + (6 : Int32)) (eS E).2] (by decide +kernel) rfl ⟨⟨rfl, g255⟩, ⟨rfl, g256⟩, ⟨rfl, g257⟩, ⟨rfl, g258⟩, ⟨rfl, g259⟩, ⟨rfl, g260⟩⟩ ?_
          refine rv hG z_M_rest 91 6 1090 251 [.int ((eS E).1 (Int32.toNatClampNeg (x3 + (1 : Int32)))), .int ((eS E).1 (Int32.toNatClampNeg (x3 + (2 : Int32)))), .int ((eS E).1 (Int32.toNatClampNeg (x3 + (3 : Int32)))), .int ((eS E).1 (Int32.toNatClampNeg (x3 + (4 : Int32)))), .int ((eS E).1 (Int32.toNatClampNeg (x3 + (5 : Int32)))), .int ((eS E).1 (Int32.toNatClampNeg (x3 + (6 : Int32))))] [.int r253] (by decide +kernel) mk_M_rest lk_13_91 rcv_251 rfl ⟨rfl, Nat.le_of_ble_eq_true rfl⟩ (c_M_rest (d := d + 7) h254 ((eS E).1 (Int32.toNatClampNeg (x3 + (1 : Int32)))) ((eS E).1 (Int32.toNatClampNeg (x3 + (2 : Int32)))) ((eS E).1 (Int32.toNatClampNeg (x3 + (3 : Int32)))) ((eS E).1 (Int32.toNatClampNeg (x3 + (4 : Int32)))) ((eS E).1 (Int32.toNatClampNeg (x3 + (5 : Int32)))) ((eS E).1 (Int32.toNatClampNeg (x3 + (6 : Int32)))) (ok_bind hO)) ?_
          rintro _ h262 ⟨r261, rfl, hO⟩
          refine rj hG .eq (550) 1643 1093 (by decide +kernel) (by decide) (fun c263 => ?_) (fun c263 => ?_)
          · have hO := ok_pos c263 hO
            exact j1643 x3 h262 hO
          · have hO := ok_neg c263 hO
            refine rs hG [] [] rfl ?_
            exact j1096 h262 (ok_inr hO)
        have hO := ok_neg c246 hO
        refine sw_c (18 : Int32) (by decide) (fun c264 => ?_) (fun c264 => ?_)
        · have hO := ok_pos c264 hO
          obtain ⟨g265, hO⟩ := ok_if hO
          obtain ⟨g266, hO⟩ := ok_if hO
          obtain ⟨g267, hO⟩ := ok_if hO
          obtain ⟨g268, hO⟩ := ok_if hO
          obtain ⟨g269, hO⟩ := ok_if hO
          refine rb hG 29 1098 1124 [.aload 1, .aload 0, .iload 3, .ldc_w 0, .iadd, .faload, .aload 0, .iload 3, .ldc_w 1, .iadd, .faload, .aload 0, .iload 3, .ldc_w 2, .iadd, .faload, .aload 0, .iload 3, .ldc_w 3, .iadd, .faload, .aload 0, .iload 3, .ldc_w 4, .iadd, .faload] [1, 2, 3, 4, 5] [] [(0, .ref 300), (1, .ref 1), (2, .ref 251), (3, .int x3)] [.int ((eS E).1 (Int32.toNatClampNeg (x3 + (5 : Int32)))), .int ((eS E).1 (Int32.toNatClampNeg (x3 + (4 : Int32)))), .int ((eS E).1 (Int32.toNatClampNeg (x3 + (3 : Int32)))), .int ((eS E).1 (Int32.toNatClampNeg (x3 + (2 : Int32)))), .int ((eS E).1 (Int32.toNatClampNeg (x3 + (1 : Int32)))), .ref 1] h [300 = 300 ∧ inb (x3 + (1 : Int32)) (eS E).2, 300 = 300 ∧ inb (x3 + (2 : Int32)) (eS E).2, 300 = 300 ∧ inb (x3 + (3 : Int32)) (eS E).2, 300 = 300 ∧ inb (x3 + (4 : Int32)) (eS E).2, 300 = 300 ∧ inb (x3 + (5 : Int32)) (eS E).2] (by decide +kernel) rfl ⟨⟨rfl, g265⟩, ⟨rfl, g266⟩, ⟨rfl, g267⟩, ⟨rfl, g268⟩, ⟨rfl, g269⟩⟩ ?_
          refine ri hG .eq (7) 1131 1124 (by decide +kernel) (by decide) (fun c270 => ?_) (fun c270 => ?_)
          · have hO := ok_pos c270 hO
            refine rb hG 4 1131 1132 [.ldc_w 0] [0] [] [(0, .ref 300), (1, .ref 1), (2, .ref 251), (3, .int x3)] [.int (0 : Int32), .int ((eS E).1 (Int32.toNatClampNeg (x3 + (4 : Int32)))), .int ((eS E).1 (Int32.toNatClampNeg (x3 + (3 : Int32)))), .int ((eS E).1 (Int32.toNatClampNeg (x3 + (2 : Int32)))), .int ((eS E).1 (Int32.toNatClampNeg (x3 + (1 : Int32)))), .ref 1] h [] (by decide +kernel) rfl trivial ?_
            exact j1132 x3 ((eS E).1 (Int32.toNatClampNeg (x3 + (1 : Int32)))) ((eS E).1 (Int32.toNatClampNeg (x3 + (2 : Int32)))) ((eS E).1 (Int32.toNatClampNeg (x3 + (3 : Int32)))) ((eS E).1 (Int32.toNatClampNeg (x3 + (4 : Int32)))) (0 : Int32) h hO
          · have hO := ok_neg c270 hO
            refine rb hG 5 1127 1132 [.ldc_w 0] [1] [] [(0, .ref 300), (1, .ref 1), (2, .ref 251), (3, .int x3)] [.int (1 : Int32), .int ((eS E).1 (Int32.toNatClampNeg (x3 + (4 : Int32)))), .int ((eS E).1 (Int32.toNatClampNeg (x3 + (3 : Int32)))), .int ((eS E).1 (Int32.toNatClampNeg (x3 + (2 : Int32)))), .int ((eS E).1 (Int32.toNatClampNeg (x3 + (1 : Int32)))), .ref 1] h [] (by decide +kernel) rfl trivial ?_
            exact j1132 x3 ((eS E).1 (Int32.toNatClampNeg (x3 + (1 : Int32)))) ((eS E).1 (Int32.toNatClampNeg (x3 + (2 : Int32)))) ((eS E).1 (Int32.toNatClampNeg (x3 + (3 : Int32)))) ((eS E).1 (Int32.toNatClampNeg (x3 + (4 : Int32)))) (1 : Int32) h hO
        have hO := ok_neg c264 hO
        refine sw_c (19 : Int32) (by decide) (fun c271 => ?_) (fun c271 => ?_)
        · have hO := ok_pos c271 hO
          obtain ⟨g272, hO⟩ := ok_if hO
          obtain ⟨g273, hO⟩ := ok_if hO
          refine rb hG 14 1177 1188 [.aload 1, .aload 0, .iload 3, .ldc_w 0, .iadd, .faload, .aload 0, .iload 3, .ldc_w 1, .iadd, .faload] [1, 2] [] [(0, .ref 300), (1, .ref 1), (2, .ref 251), (3, .int x3)] [.int ((eS E).1 (Int32.toNatClampNeg (x3 + (2 : Int32)))), .int ((eS E).1 (Int32.toNatClampNeg (x3 + (1 : Int32)))), .ref 1] h [300 = 300 ∧ inb (x3 + (1 : Int32)) (eS E).2, 300 = 300 ∧ inb (x3 + (2 : Int32)) (eS E).2] (by decide +kernel) rfl ⟨⟨rfl, g272⟩, ⟨rfl, g273⟩⟩ ?_
          refine ri hG .eq (7) 1195 1188 (by decide +kernel) (by decide) (fun c274 => ?_) (fun c274 => ?_)
          · have hO := ok_pos c274 hO
            refine rb hG 4 1195 1196 [.ldc_w 0] [0] [] [(0, .ref 300), (1, .ref 1), (2, .ref 251), (3, .int x3)] [.int (0 : Int32), .int ((eS E).1 (Int32.toNatClampNeg (x3 + (1 : Int32)))), .ref 1] h [] (by decide +kernel) rfl trivial ?_
            exact j1196 x3 ((eS E).1 (Int32.toNatClampNeg (x3 + (1 : Int32)))) (0 : Int32) h hO
          · have hO := ok_neg c274 hO
            refine rb hG 5 1191 1196 [.ldc_w 0] [1] [] [(0, .ref 300), (1, .ref 1), (2, .ref 251), (3, .int x3)] [.int (1 : Int32), .int ((eS E).1 (Int32.toNatClampNeg (x3 + (1 : Int32)))), .ref 1] h [] (by decide +kernel) rfl trivial ?_
            exact j1196 x3 ((eS E).1 (Int32.toNatClampNeg (x3 + (1 : Int32)))) (1 : Int32) h hO
        have hO := ok_neg c271 hO
        refine sw_c (20 : Int32) (by decide) (fun c275 => ?_) (fun c275 => ?_)
        · have hO := ok_pos c275 hO
          obtain ⟨g276, hO⟩ := ok_if hO
          obtain ⟨g277, hO⟩ := ok_if hO
          obtain ⟨g278, hO⟩ := ok_if hO
          obtain ⟨g279, hO⟩ := ok_if hO
          refine rb hG 24 1226 1247 [.aload 1, .aload 0, .iload 3, .ldc_w 0, .iadd, .faload, .aload 0, .iload 3, .ldc_w 1, .iadd, .faload, .aload 0, .iload 3, .ldc_w 2, .iadd, .faload, .aload 0, .iload 3, .ldc_w 3, .iadd, .faload] [1, 2, 3, 4] [] [(0, .ref 300), (1, .ref 1), (2, .ref 251), (3, .int x3)] [.int ((eS E).1 (Int32.toNatClampNeg (x3 + (4 : Int32)))), .int ((eS E).1 (Int32.toNatClampNeg (x3 + (3 : Int32)))), .int ((eS E).1 (Int32.toNatClampNeg (x3 + (2 : Int32)))), .int ((eS E).1 (Int32.toNatClampNeg (x3 + (1 : Int32)))), .ref 1] h [300 = 300 ∧ inb (x3 + (1 : Int32)) (eS E).2, 300 = 300 ∧ inb (x3 + (2 : Int32)) (eS E).2, 300 = 300 ∧ inb (x3 + (3 : Int32)) (eS E).2, 300 = 300 ∧ inb (x3 + (4 : Int32)) (eS E).2] (by decide +kernel) rfl ⟨⟨rfl, g276⟩, ⟨rfl, g277⟩, ⟨rfl, g278⟩, ⟨rfl, g279⟩⟩ ?_
          refine rv hG z_K_drawn 102 4 1247 1 [.int ((eS E).1 (Int32.toNatClampNeg (x3 + (1 : Int32)))), .int ((eS E).1 (Int32.toNatClampNeg (x3 + (2 : Int32)))), .int ((eS E).1 (Int32.toNatClampNeg (x3 + (3 : Int32)))), .int ((eS E).1 (Int32.toNatClampNeg (x3 + (4 : Int32))))] [] (by decide +kernel) mk_K_drawn lk_13_102 rcv_1 rfl ⟨rfl, Nat.le_of_ble_eq_true rfl⟩ (c_K_drawn (d := d + 9) h ((eS E).1 (Int32.toNatClampNeg (x3 + (1 : Int32)))) ((eS E).1 (Int32.toNatClampNeg (x3 + (2 : Int32)))) ((eS E).1 (Int32.toNatClampNeg (x3 + (3 : Int32)))) ((eS E).1 (Int32.toNatClampNeg (x3 + (4 : Int32)))) (ok_bind hO)) ?_
          rintro _ h281 ⟨r280, rfl, hO⟩
          obtain ⟨g282, hO⟩ := ok_if hO
          obtain ⟨g283, hO⟩ := ok_if hO
          obtain ⟨g284, hO⟩ := ok_if hO
          obtain ⟨g285, hO⟩ := ok_if hO
          refine rb hG 24 1250 1271 [.aload 2, .aload 0, .iload 3, .ldc_w 0, .iadd, .faload, .aload 0, .iload 3, .ldc_w 1, .iadd, .faload, .aload 0, .iload 3, .ldc_w 2, .iadd, .faload, .aload 0, .iload 3, .ldc_w 3, .iadd, .faload] [1, 2, 3, 4] [] [(0, .ref 300), (1, .ref 1), (2, .ref 251), (3, .int x3)] [.int ((eS E).1 (Int32.toNatClampNeg (x3 + (4 : Int32)))), .int ((eS E).1 (Int32.toNatClampNeg (x3 + (3 : Int32)))), .int ((eS E).1 (Int32.toNatClampNeg (x3 + (2 : Int32)))), .int ((eS E).1 (Int32.toNatClampNeg (x3 + (1 : Int32)))), .ref 251, .int r280] h281 [300 = 300 ∧ inb (x3 + (1 : Int32)) (eS E).2, 300 = 300 ∧ inb (x3 + (2 : Int32)) (eS E).2, 300 = 300 ∧ inb (x3 + (3 : Int32)) (eS E).2, 300 = 300 ∧ inb (x3 + (4 : Int32)) (eS E).2] (by decide +kernel) rfl ⟨⟨rfl, g282⟩, ⟨rfl, g283⟩, ⟨rfl, g284⟩, ⟨rfl, g285⟩⟩ ?_
          refine rv hG z_M_drawn 105 4 1271 251 [.int ((eS E).1 (Int32.toNatClampNeg (x3 + (1 : Int32)))), .int ((eS E).1 (Int32.toNatClampNeg (x3 + (2 : Int32)))), .int ((eS E).1 (Int32.toNatClampNeg (x3 + (3 : Int32)))), .int ((eS E).1 (Int32.toNatClampNeg (x3 + (4 : Int32))))] [.int r280] (by decide +kernel) mk_M_drawn lk_13_105 rcv_251 rfl ⟨rfl, Nat.le_of_ble_eq_true rfl⟩ (c_M_drawn (d := d + 9) h281 ((eS E).1 (Int32.toNatClampNeg (x3 + (1 : Int32)))) ((eS E).1 (Int32.toNatClampNeg (x3 + (2 : Int32)))) ((eS E).1 (Int32.toNatClampNeg (x3 + (3 : Int32)))) ((eS E).1 (Int32.toNatClampNeg (x3 + (4 : Int32)))) (ok_bind hO)) ?_
          rintro _ h287 ⟨r286, rfl, hO⟩
          refine rj hG .eq (369) 1643 1274 (by decide +kernel) (by decide) (fun c288 => ?_) (fun c288 => ?_)
          · have hO := ok_pos c288 hO
            exact j1643 x3 h287 hO
          · have hO := ok_neg c288 hO
            refine rs hG [] [] rfl ?_
            exact j1277 h287 (ok_inr hO)
        have hO := ok_neg c275 hO
        refine sw_c (21 : Int32) (by decide) (fun c289 => ?_) (fun c289 => ?_)
        · have hO := ok_pos c289 hO
          obtain ⟨g290, hO⟩ := ok_if hO
          obtain ⟨g291, hO⟩ := ok_if hO
          obtain ⟨g292, hO⟩ := ok_if hO
          obtain ⟨g293, hO⟩ := ok_if hO
          obtain ⟨g294, hO⟩ := ok_if hO
          refine rb hG 29 1279 1305 [.aload 1, .aload 0, .iload 3, .ldc_w 0, .iadd, .faload, .aload 0, .iload 3, .ldc_w 1, .iadd, .faload, .aload 0, .iload 3, .ldc_w 2, .iadd, .faload, .aload 0, .iload 3, .ldc_w 3, .iadd, .faload, .aload 0, .iload 3, .ldc_w 4, .iadd, .faload] [1, 2, 3, 4, 5] [] [(0, .ref 300), (1, .ref 1), (2, .ref 251), (3, .int x3)] [.int ((eS E).1 (Int32.toNatClampNeg (x3 + (5 : Int32)))), .int ((eS E).1 (Int32.toNatClampNeg (x3 + (4 : Int32)))), .int ((eS E).1 (Int32.toNatClampNeg (x3 + (3 : Int32)))), .int ((eS E).1 (Int32.toNatClampNeg (x3 + (2 : Int32)))), .int ((eS E).1 (Int32.toNatClampNeg (x3 + (1 : Int32)))), .ref 1] h [300 = 300 ∧ inb (x3 + (1 : Int32)) (eS E).2, 300 = 300 ∧ inb (x3 + (2 : Int32)) (eS E).2, 300 = 300 ∧ inb (x3 + (3 : Int32)) (eS E).2, 300 = 300 ∧ inb (x3 + (4 : Int32)) (eS E).2, 300 = 300 ∧ inb (x3 + (5 : Int32)) (eS E).2] (by decide +kernel) rfl ⟨⟨rfl, g290⟩, ⟨rfl, g291⟩, ⟨rfl, g292⟩, ⟨rfl, g293⟩, ⟨rfl, g294⟩⟩ ?_
          refine rv hG z_K_met 106 5 1305 1 [.int ((eS E).1 (Int32.toNatClampNeg (x3 + (1 : Int32)))), .int ((eS E).1 (Int32.toNatClampNeg (x3 + (2 : Int32)))), .int ((eS E).1 (Int32.toNatClampNeg (x3 + (3 : Int32)))), .int ((eS E).1 (Int32.toNatClampNeg (x3 + (4 : Int32)))), .int ((eS E).1 (Int32.toNatClampNeg (x3 + (5 : Int32))))] [] (by decide +kernel) mk_K_met lk_13_106 rcv_1 rfl ⟨rfl, Nat.le_of_ble_eq_true rfl⟩ (c_K_met (d := d + 8) h ((eS E).1 (Int32.toNatClampNeg (x3 + (1 : Int32)))) ((eS E).1 (Int32.toNatClampNeg (x3 + (2 : Int32)))) ((eS E).1 (Int32.toNatClampNeg (x3 + (3 : Int32)))) ((eS E).1 (Int32.toNatClampNeg (x3 + (4 : Int32)))) ((eS E).1 (Int32.toNatClampNeg (x3 + (5 : Int32)))) (ok_bind hO)) ?_
          rintro _ h296 ⟨r295, rfl, hO⟩
          obtain ⟨g297, hO⟩ := ok_if hO
          obtain ⟨g298, hO⟩ := ok_if hO
          obtain ⟨g299, hO⟩ := ok_if hO
          obtain ⟨g300, hO⟩ := ok_if hO
          obtain ⟨g301, hO⟩ := ok_if hO
          refine rb hG 29 1308 1334 [.aload 2, .aload 0, .iload 3, .ldc_w 0, .iadd, .faload, .aload 0, .iload 3, .ldc_w 1, .iadd, .faload, .aload 0, .iload 3, .ldc_w 2, .iadd, .faload, .aload 0, .iload 3, .ldc_w 3, .iadd, .faload, .aload 0, .iload 3, .ldc_w 4, .iadd, .faload] [1, 2, 3, 4, 5] [] [(0, .ref 300), (1, .ref 1), (2, .ref 251), (3, .int x3)] [.int ((eS E).1 (Int32.toNatClampNeg (x3 + (5 : Int32)))), .int ((eS E).1 (Int32.toNatClampNeg (x3 + (4 : Int32)))), .int ((eS E).1 (Int32.toNatClampNeg (x3 + (3 : Int32)))), .int ((eS E).1 (Int32.toNatClampNeg (x3 + (2 : Int32)))), .int ((eS E).1 (Int32.toNatClampNeg (x3 + (1 : Int32)))), .ref 251, .int r295] h296 [300 = 300 ∧ inb (x3 + (1 : Int32)) (eS E).2, 300 = 300 ∧ inb (x3 + (2 : Int32)) (eS E).2, 300 = 300 ∧ inb (x3 + (3 : Int32)) (eS E).2, 300 = 300 ∧ inb (x3 + (4 : Int32)) (eS E).2, 300 = 300 ∧ inb (x3 + (5 : Int32)) (eS E).2] (by decide +kernel) rfl ⟨⟨rfl, g297⟩, ⟨rfl, g298⟩, ⟨rfl, g299⟩, ⟨rfl, g300⟩, ⟨rfl, g301⟩⟩ ?_
          refine rv hG z_M_met 109 5 1334 251 [.int ((eS E).1 (Int32.toNatClampNeg (x3 + (1 : Int32)))), .int ((eS E).1 (Int32.toNatClampNeg (x3 + (2 : Int32)))), .int ((eS E).1 (Int32.toNatClampNeg (x3 + (3 : Int32)))), .int ((eS E).1 (Int32.toNatClampNeg (x3 + (4 : Int32)))), .int ((eS E).1 (Int32.toNatClampNeg (x3 + (5 : Int32))))] [.int r295] (by decide +kernel) mk_M_met lk_13_109 rcv_251 rfl ⟨rfl, Nat.le_of_ble_eq_true rfl⟩ (c_M_met (d := d + 7) h296 ((eS E).1 (Int32.toNatClampNeg (x3 + (1 : Int32)))) ((eS E).1 (Int32.toNatClampNeg (x3 + (2 : Int32)))) ((eS E).1 (Int32.toNatClampNeg (x3 + (3 : Int32)))) ((eS E).1 (Int32.toNatClampNeg (x3 + (4 : Int32)))) ((eS E).1 (Int32.toNatClampNeg (x3 + (5 : Int32)))) (ok_bind hO)) ?_
          rintro _ h303 ⟨r302, rfl, hO⟩
          refine rj hG .eq (306) 1643 1337 (by decide +kernel) (by decide) (fun c304 => ?_) (fun c304 => ?_)
          · have hO := ok_pos c304 hO
            exact j1643 x3 h303 hO
          · have hO := ok_neg c304 hO
            refine rs hG [] [] rfl ?_
            exact j1340 h303 (ok_inr hO)
        have hO := ok_neg c289 hO
        refine sw_c (22 : Int32) (by decide) (fun c305 => ?_) (fun c305 => ?_)
        · have hO := ok_pos c305 hO
          obtain ⟨g306, hO⟩ := ok_if hO
          obtain ⟨g307, hO⟩ := ok_if hO
          obtain ⟨g308, hO⟩ := ok_if hO
          obtain ⟨g309, hO⟩ := ok_if hO
          refine rb hG 24 1342 1363 [.aload 1, .aload 0, .iload 3, .ldc_w 0, .iadd, .faload, .aload 0, .iload 3, .ldc_w 1, .iadd, .faload, .aload 0, .iload 3, .ldc_w 2, .iadd, .faload, .aload 0, .iload 3, .ldc_w 3, .iadd, .faload] [1, 2, 3, 4] [] [(0, .ref 300), (1, .ref 1), (2, .ref 251), (3, .int x3)] [.int ((eS E).1 (Int32.toNatClampNeg (x3 + (4 : Int32)))), .int ((eS E).1 (Int32.toNatClampNeg (x3 + (3 : Int32)))), .int ((eS E).1 (Int32.toNatClampNeg (x3 + (2 : Int32)))), .int ((eS E).1 (Int32.toNatClampNeg (x3 + (1 : Int32)))), .ref 1] h [300 = 300 ∧ inb (x3 + (1 : Int32)) (eS E).2, 300 = 300 ∧ inb (x3 + (2 : Int32)) (eS E).2, 300 = 300 ∧ inb (x3 + (3 : Int32)) (eS E).2, 300 = 300 ∧ inb (x3 + (4 : Int32)) (eS E).2] (by decide +kernel) rfl ⟨⟨rfl, g306⟩, ⟨rfl, g307⟩, ⟨rfl, g308⟩, ⟨rfl, g309⟩⟩ ?_
          refine rv hG z_K_ghosts 110 4 1363 1 [.int ((eS E).1 (Int32.toNatClampNeg (x3 + (1 : Int32)))), .int ((eS E).1 (Int32.toNatClampNeg (x3 + (2 : Int32)))), .int ((eS E).1 (Int32.toNatClampNeg (x3 + (3 : Int32)))), .int ((eS E).1 (Int32.toNatClampNeg (x3 + (4 : Int32))))] [] (by decide +kernel) mk_K_ghosts lk_13_110 rcv_1 rfl ⟨rfl, Nat.le_of_ble_eq_true rfl⟩ (c_K_ghosts (d := d + 8) h ((eS E).1 (Int32.toNatClampNeg (x3 + (1 : Int32)))) ((eS E).1 (Int32.toNatClampNeg (x3 + (2 : Int32)))) ((eS E).1 (Int32.toNatClampNeg (x3 + (3 : Int32)))) ((eS E).1 (Int32.toNatClampNeg (x3 + (4 : Int32)))) (ok_bind hO)) ?_
          rintro _ h311 ⟨r310, rfl, hO⟩
          obtain ⟨g312, hO⟩ := ok_if hO
          obtain ⟨g313, hO⟩ := ok_if hO
          obtain ⟨g314, hO⟩ := ok_if hO
          obtain ⟨g315, hO⟩ := ok_if hO
          refine rb hG 24 1366 1387 [.aload 2, .aload 0, .iload 3, .ldc_w 0, .iadd, .faload, .aload 0, .iload 3, .ldc_w 1, .iadd, .faload, .aload 0, .iload 3, .ldc_w 2, .iadd, .faload, .aload 0, .iload 3, .ldc_w 3, .iadd, .faload] [1, 2, 3, 4] [] [(0, .ref 300), (1, .ref 1), (2, .ref 251), (3, .int x3)] [.int ((eS E).1 (Int32.toNatClampNeg (x3 + (4 : Int32)))), .int ((eS E).1 (Int32.toNatClampNeg (x3 + (3 : Int32)))), .int ((eS E).1 (Int32.toNatClampNeg (x3 + (2 : Int32)))), .int ((eS E).1 (Int32.toNatClampNeg (x3 + (1 : Int32)))), .ref 251, .int r310] h311 [300 = 300 ∧ inb (x3 + (1 : Int32)) (eS E).2, 300 = 300 ∧ inb (x3 + (2 : Int32)) (eS E).2, 300 = 300 ∧ inb (x3 + (3 : Int32)) (eS E).2, 300 = 300 ∧ inb (x3 + (4 : Int32)) (eS E).2] (by decide +kernel) rfl ⟨⟨rfl, g312⟩, ⟨rfl, g313⟩, ⟨rfl, g314⟩, ⟨rfl, g315⟩⟩ ?_
          refine rv hG z_M_ghosts 113 4 1387 251 [.int ((eS E).1 (Int32.toNatClampNeg (x3 + (1 : Int32)))), .int ((eS E).1 (Int32.toNatClampNeg (x3 + (2 : Int32)))), .int ((eS E).1 (Int32.toNatClampNeg (x3 + (3 : Int32)))), .int ((eS E).1 (Int32.toNatClampNeg (x3 + (4 : Int32))))] [.int r310] (by decide +kernel) mk_M_ghosts lk_13_113 rcv_251 rfl ⟨rfl, Nat.le_of_ble_eq_true rfl⟩ (c_M_ghosts (d := d + 7) h311 ((eS E).1 (Int32.toNatClampNeg (x3 + (1 : Int32)))) ((eS E).1 (Int32.toNatClampNeg (x3 + (2 : Int32)))) ((eS E).1 (Int32.toNatClampNeg (x3 + (3 : Int32)))) ((eS E).1 (Int32.toNatClampNeg (x3 + (4 : Int32)))) (ok_bind hO)) ?_
          rintro _ h317 ⟨r316, rfl, hO⟩
          refine rj hG .eq (253) 1643 1390 (by decide +kernel) (by decide) (fun c318 => ?_) (fun c318 => ?_)
          · have hO := ok_pos c318 hO
            exact j1643 x3 h317 hO
          · have hO := ok_neg c318 hO
            refine rs hG [] [] rfl ?_
            exact j1393 h317 (ok_inr hO)
        have hO := ok_neg c305 hO
        refine sw_c (23 : Int32) (by decide) (fun c319 => ?_) (fun c319 => ?_)
        · have hO := ok_pos c319 hO
          obtain ⟨g320, hO⟩ := ok_if hO
          obtain ⟨g321, hO⟩ := ok_if hO
          obtain ⟨g322, hO⟩ := ok_if hO
          obtain ⟨g323, hO⟩ := ok_if hO
          obtain ⟨g324, hO⟩ := ok_if hO
          refine rb hG 29 1395 1421 [.aload 1, .aload 0, .iload 3, .ldc_w 0, .iadd, .faload, .aload 0, .iload 3, .ldc_w 1, .iadd, .faload, .aload 0, .iload 3, .ldc_w 2, .iadd, .faload, .aload 0, .iload 3, .ldc_w 3, .iadd, .faload, .aload 0, .iload 3, .ldc_w 4, .iadd, .faload] [1, 2, 3, 4, 5] [] [(0, .ref 300), (1, .ref 1), (2, .ref 251), (3, .int x3)] [.int ((eS E).1 (Int32.toNatClampNeg (x3 + (5 : Int32)))), .int ((eS E).1 (Int32.toNatClampNeg (x3 + (4 : Int32)))), .int ((eS E).1 (Int32.toNatClampNeg (x3 + (3 : Int32)))), .int ((eS E).1 (Int32.toNatClampNeg (x3 + (2 : Int32)))), .int ((eS E).1 (Int32.toNatClampNeg (x3 + (1 : Int32)))), .ref 1] h [300 = 300 ∧ inb (x3 + (1 : Int32)) (eS E).2, 300 = 300 ∧ inb (x3 + (2 : Int32)) (eS E).2, 300 = 300 ∧ inb (x3 + (3 : Int32)) (eS E).2, 300 = 300 ∧ inb (x3 + (4 : Int32)) (eS E).2, 300 = 300 ∧ inb (x3 + (5 : Int32)) (eS E).2] (by decide +kernel) rfl ⟨⟨rfl, g320⟩, ⟨rfl, g321⟩, ⟨rfl, g322⟩, ⟨rfl, g323⟩, ⟨rfl, g324⟩⟩ ?_
          refine rv hG z_K_forgets 114 5 1421 1 [.int ((eS E).1 (Int32.toNatClampNeg (x3 + (1 : Int32)))), .int ((eS E).1 (Int32.toNatClampNeg (x3 + (2 : Int32)))), .int ((eS E).1 (Int32.toNatClampNeg (x3 + (3 : Int32)))), .int ((eS E).1 (Int32.toNatClampNeg (x3 + (4 : Int32)))), .int ((eS E).1 (Int32.toNatClampNeg (x3 + (5 : Int32))))] [] (by decide +kernel) mk_K_forgets lk_13_114 rcv_1 rfl ⟨rfl, Nat.le_of_ble_eq_true rfl⟩ (c_K_forgets (d := d + 8) h ((eS E).1 (Int32.toNatClampNeg (x3 + (1 : Int32)))) ((eS E).1 (Int32.toNatClampNeg (x3 + (2 : Int32)))) ((eS E).1 (Int32.toNatClampNeg (x3 + (3 : Int32)))) ((eS E).1 (Int32.toNatClampNeg (x3 + (4 : Int32)))) ((eS E).1 (Int32.toNatClampNeg (x3 + (5 : Int32)))) (ok_bind hO)) ?_
          rintro _ h326 ⟨r325, rfl, hO⟩
          obtain ⟨g327, hO⟩ := ok_if hO
          obtain ⟨g328, hO⟩ := ok_if hO
          obtain ⟨g329, hO⟩ := ok_if hO
          obtain ⟨g330, hO⟩ := ok_if hO
          obtain ⟨g331, hO⟩ := ok_if hO
          refine rb hG 29 1424 1450 [.aload 2, .aload 0, .iload 3, .ldc_w 0, .iadd, .faload, .aload 0, .iload 3, .ldc_w 1, .iadd, .faload, .aload 0, .iload 3, .ldc_w 2, .iadd, .faload, .aload 0, .iload 3, .ldc_w 3, .iadd, .faload, .aload 0, .iload 3, .ldc_w 4, .iadd, .faload] [1, 2, 3, 4, 5] [] [(0, .ref 300), (1, .ref 1), (2, .ref 251), (3, .int x3)] [.int ((eS E).1 (Int32.toNatClampNeg (x3 + (5 : Int32)))), .int ((eS E).1 (Int32.toNatClampNeg (x3 + (4 : Int32)))), .int ((eS E).1 (Int32.toNatClampNeg (x3 + (3 : Int32)))), .int ((eS E).1 (Int32.toNatClampNeg (x3 + (2 : Int32)))), .int ((eS E).1 (Int32.toNatClampNeg (x3 + (1 : Int32)))), .ref 251, .int r325] h326 [300 = 300 ∧ inb (x3 + (1 : Int32)) (eS E).2, 300 = 300 ∧ inb (x3 + (2 : Int32)) (eS E).2, 300 = 300 ∧ inb (x3 + (3 : Int32)) (eS E).2, 300 = 300 ∧ inb (x3 + (4 : Int32)) (eS E).2, 300 = 300 ∧ inb (x3 + (5 : Int32)) (eS E).2] (by decide +kernel) rfl ⟨⟨rfl, g327⟩, ⟨rfl, g328⟩, ⟨rfl, g329⟩, ⟨rfl, g330⟩, ⟨rfl, g331⟩⟩ ?_
          refine rv hG z_M_forgets 117 5 1450 251 [.int ((eS E).1 (Int32.toNatClampNeg (x3 + (1 : Int32)))), .int ((eS E).1 (Int32.toNatClampNeg (x3 + (2 : Int32)))), .int ((eS E).1 (Int32.toNatClampNeg (x3 + (3 : Int32)))), .int ((eS E).1 (Int32.toNatClampNeg (x3 + (4 : Int32)))), .int ((eS E).1 (Int32.toNatClampNeg (x3 + (5 : Int32))))] [.int r325] (by decide +kernel) mk_M_forgets lk_13_117 rcv_251 rfl ⟨rfl, Nat.le_of_ble_eq_true rfl⟩ (c_M_forgets (d := d + 7) h326 ((eS E).1 (Int32.toNatClampNeg (x3 + (1 : Int32)))) ((eS E).1 (Int32.toNatClampNeg (x3 + (2 : Int32)))) ((eS E).1 (Int32.toNatClampNeg (x3 + (3 : Int32)))) ((eS E).1 (Int32.toNatClampNeg (x3 + (4 : Int32)))) ((eS E).1 (Int32.toNatClampNeg (x3 + (5 : Int32)))) (ok_bind hO)) ?_
          rintro _ h333 ⟨r332, rfl, hO⟩
          refine rj hG .eq (190) 1643 1453 (by decide +kernel) (by decide) (fun c334 => ?_) (fun c334 => ?_)
          · have hO := ok_pos c334 hO
            exact j1643 x3 h333 hO
          · have hO := ok_neg c334 hO
            refine rs hG [] [] rfl ?_
            exact j1456 h333 (ok_inr hO)
        have hO := ok_neg c319 hO
        refine sw_c (24 : Int32) (by decide) (fun c335 => ?_) (fun c335 => ?_)
        · have hO := ok_pos c335 hO
          obtain ⟨g336, hO⟩ := ok_if hO
          obtain ⟨g337, hO⟩ := ok_if hO
          obtain ⟨g338, hO⟩ := ok_if hO
          obtain ⟨g339, hO⟩ := ok_if hO
          obtain ⟨g340, hO⟩ := ok_if hO
          refine rb hG 29 1458 1484 [.aload 1, .aload 0, .iload 3, .ldc_w 0, .iadd, .faload, .aload 0, .iload 3, .ldc_w 1, .iadd, .faload, .aload 0, .iload 3, .ldc_w 2, .iadd, .faload, .aload 0, .iload 3, .ldc_w 3, .iadd, .faload, .aload 0, .iload 3, .ldc_w 4, .iadd, .faload] [1, 2, 3, 4, 5] [] [(0, .ref 300), (1, .ref 1), (2, .ref 251), (3, .int x3)] [.int ((eS E).1 (Int32.toNatClampNeg (x3 + (5 : Int32)))), .int ((eS E).1 (Int32.toNatClampNeg (x3 + (4 : Int32)))), .int ((eS E).1 (Int32.toNatClampNeg (x3 + (3 : Int32)))), .int ((eS E).1 (Int32.toNatClampNeg (x3 + (2 : Int32)))), .int ((eS E).1 (Int32.toNatClampNeg (x3 + (1 : Int32)))), .ref 1] h [300 = 300 ∧ inb (x3 + (1 : Int32)) (eS E).2, 300 = 300 ∧ inb (x3 + (2 : Int32)) (eS E).2, 300 = 300 ∧ inb (x3 + (3 : Int32)) (eS E).2, 300 = 300 ∧ inb (x3 + (4 : Int32)) (eS E).2, 300 = 300 ∧ inb (x3 + (5 : Int32)) (eS E).2] (by decide +kernel) rfl ⟨⟨rfl, g336⟩, ⟨rfl, g337⟩, ⟨rfl, g338⟩, ⟨rfl, g339⟩, ⟨rfl, g340⟩⟩ ?_
          refine rv hG z_K_spy 118 5 1484 1 [.int ((eS E).1 (Int32.toNatClampNeg (x3 + (1 : Int32)))), .int ((eS E).1 (Int32.toNatClampNeg (x3 + (2 : Int32)))), .int ((eS E).1 (Int32.toNatClampNeg (x3 + (3 : Int32)))), .int ((eS E).1 (Int32.toNatClampNeg (x3 + (4 : Int32)))), .int ((eS E).1 (Int32.toNatClampNeg (x3 + (5 : Int32))))] [] (by decide +kernel) mk_K_spy lk_13_118 rcv_1 rfl ⟨rfl, Nat.le_of_ble_eq_true rfl⟩ (c_K_spy (d := d + 8) h ((eS E).1 (Int32.toNatClampNeg (x3 + (1 : Int32)))) ((eS E).1 (Int32.toNatClampNeg (x3 + (2 : Int32)))) ((eS E).1 (Int32.toNatClampNeg (x3 + (3 : Int32)))) ((eS E).1 (Int32.toNatClampNeg (x3 + (4 : Int32)))) ((eS E).1 (Int32.toNatClampNeg (x3 + (5 : Int32)))) (ok_bind hO)) ?_
          rintro _ h342 ⟨r341, rfl, hO⟩
          obtain ⟨g343, hO⟩ := ok_if hO
          obtain ⟨g344, hO⟩ := ok_if hO
          obtain ⟨g345, hO⟩ := ok_if hO
          obtain ⟨g346, hO⟩ := ok_if hO
          obtain ⟨g347, hO⟩ := ok_if hO
          refine rb hG 29 1487 1513 [.aload 2, .aload 0, .iload 3, .ldc_w 0, .iadd, .faload, .aload 0, .iload 3, .ldc_w 1, .iadd, .faload, .aload 0, .iload 3, .ldc_w 2, .iadd, .faload, .aload 0, .iload 3, .ldc_w 3, .iadd, .faload, .aload 0, .iload 3, .ldc_w 4, .iadd, .faload] [1, 2, 3, 4, 5] [] [(0, .ref 300), (1, .ref 1), (2, .ref 251), (3, .int x3)] [.int ((eS E).1 (Int32.toNatClampNeg (x3 + (5 : Int32)))), .int ((eS E).1 (Int32.toNatClampNeg (x3 + (4 : Int32)))), .int ((eS E).1 (Int32.toNatClampNeg (x3 + (3 : Int32)))), .int ((eS E).1 (Int32.toNatClampNeg (x3 + (2 : Int32)))), .int ((eS E).1 (Int32.toNatClampNeg (x3 + (1 : Int32)))), .ref 251, .int r341] h342 [300 = 300 ∧ inb (x3 + (1 : Int32)) (eS E).2, 300 = 300 ∧ inb (x3 + (2 : Int32)) (eS E).2, 300 = 300 ∧ inb (x3 + (3 : Int32)) (eS E).2, 300 = 300 ∧ inb (x3 + (4 : Int32)) (eS E).2, 300 = 300 ∧ inb (x3 + (5 : Int32)) (eS E).2] (by decide +kernel) rfl ⟨⟨rfl, g343⟩, ⟨rfl, g344⟩, ⟨rfl, g345⟩, ⟨rfl, g346⟩, ⟨rfl, g347⟩⟩ ?_
          refine rv hG z_M_spy 121 5 1513 251 [.int ((eS E).1 (Int32.toNatClampNeg (x3 + (1 : Int32)))), .int ((eS E).1 (Int32.toNatClampNeg (x3 + (2 : Int32)))), .int ((eS E).1 (Int32.toNatClampNeg (x3 + (3 : Int32)))), .int ((eS E).1 (Int32.toNatClampNeg (x3 + (4 : Int32)))), .int ((eS E).1 (Int32.toNatClampNeg (x3 + (5 : Int32))))] [.int r341] (by decide +kernel) mk_M_spy lk_13_121 rcv_251 rfl ⟨rfl, Nat.le_of_ble_eq_true rfl⟩ (c_M_spy (d := d + 7) h342 ((eS E).1 (Int32.toNatClampNeg (x3 + (1 : Int32)))) ((eS E).1 (Int32.toNatClampNeg (x3 + (2 : Int32)))) ((eS E).1 (Int32.toNatClampNeg (x3 + (3 : Int32)))) ((eS E).1 (Int32.toNatClampNeg (x3 + (4 : Int32)))) ((eS E).1 (Int32.toNatClampNeg (x3 + (5 : Int32)))) (ok_bind hO)) ?_
          rintro _ h349 ⟨r348, rfl, hO⟩
          refine rj hG .eq (127) 1643 1516 (by decide +kernel) (by decide) (fun c350 => ?_) (fun c350 => ?_)
          · have hO := ok_pos c350 hO
            exact j1643 x3 h349 hO
          · have hO := ok_neg c350 hO
            refine rs hG [] [] rfl ?_
            exact j1519 h349 (ok_inr hO)
        have hO := ok_neg c335 hO
        refine sw_c (25 : Int32) (by decide) (fun c351 => ?_) (fun c351 => ?_)
        · have hO := ok_pos c351 hO
          obtain ⟨g352, hO⟩ := ok_if hO
          obtain ⟨g353, hO⟩ := ok_if hO
          obtain ⟨g354, hO⟩ := ok_if hO
          obtain ⟨g355, hO⟩ := ok_if hO
          refine rb hG 24 1521 1542 [.aload 1, .aload 0, .iload 3, .ldc_w 0, .iadd, .faload, .aload 0, .iload 3, .ldc_w 1, .iadd, .faload, .aload 0, .iload 3, .ldc_w 2, .iadd, .faload, .aload 0, .iload 3, .ldc_w 3, .iadd, .faload] [1, 2, 3, 4] [] [(0, .ref 300), (1, .ref 1), (2, .ref 251), (3, .int x3)] [.int ((eS E).1 (Int32.toNatClampNeg (x3 + (4 : Int32)))), .int ((eS E).1 (Int32.toNatClampNeg (x3 + (3 : Int32)))), .int ((eS E).1 (Int32.toNatClampNeg (x3 + (2 : Int32)))), .int ((eS E).1 (Int32.toNatClampNeg (x3 + (1 : Int32)))), .ref 1] h [300 = 300 ∧ inb (x3 + (1 : Int32)) (eS E).2, 300 = 300 ∧ inb (x3 + (2 : Int32)) (eS E).2, 300 = 300 ∧ inb (x3 + (3 : Int32)) (eS E).2, 300 = 300 ∧ inb (x3 + (4 : Int32)) (eS E).2] (by decide +kernel) rfl ⟨⟨rfl, g352⟩, ⟨rfl, g353⟩, ⟨rfl, g354⟩, ⟨rfl, g355⟩⟩ ?_
          refine rv hG z_K_weddings 122 4 1542 1 [.int ((eS E).1 (Int32.toNatClampNeg (x3 + (1 : Int32)))), .int ((eS E).1 (Int32.toNatClampNeg (x3 + (2 : Int32)))), .int ((eS E).1 (Int32.toNatClampNeg (x3 + (3 : Int32)))), .int ((eS E).1 (Int32.toNatClampNeg (x3 + (4 : Int32))))] [] (by decide +kernel) mk_K_weddings lk_13_122 rcv_1 rfl ⟨rfl, Nat.le_of_ble_eq_true rfl⟩ (c_K_weddings (d := d + 2) h ((eS E).1 (Int32.toNatClampNeg (x3 + (1 : Int32)))) ((eS E).1 (Int32.toNatClampNeg (x3 + (2 : Int32)))) ((eS E).1 (Int32.toNatClampNeg (x3 + (3 : Int32)))) ((eS E).1 (Int32.toNatClampNeg (x3 + (4 : Int32)))) (ok_bind hO)) ?_
          rintro _ h357 ⟨r356, rfl, hO⟩
          obtain ⟨g358, hO⟩ := ok_if hO
          obtain ⟨g359, hO⟩ := ok_if hO
          obtain ⟨g360, hO⟩ := ok_if hO
          obtain ⟨g361, hO⟩ := ok_if hO
          refine rb hG 24 1545 1566 [.aload 2, .aload 0, .iload 3, .ldc_w 0, .iadd, .faload, .aload 0, .iload 3, .ldc_w 1, .iadd, .faload, .aload 0, .iload 3, .ldc_w 2, .iadd, .faload, .aload 0, .iload 3, .ldc_w 3, .iadd, .faload] [1, 2, 3, 4] [] [(0, .ref 300), (1, .ref 1), (2, .ref 251), (3, .int x3)] [.int ((eS E).1 (Int32.toNatClampNeg (x3 + (4 : Int32)))), .int ((eS E).1 (Int32.toNatClampNeg (x3 + (3 : Int32)))), .int ((eS E).1 (Int32.toNatClampNeg (x3 + (2 : Int32)))), .int ((eS E).1 (Int32.toNatClampNeg (x3 + (1 : Int32)))), .ref 251, .int r356] h357 [300 = 300 ∧ inb (x3 + (1 : Int32)) (eS E).2, 300 = 300 ∧ inb (x3 + (2 : Int32)) (eS E).2, 300 = 300 ∧ inb (x3 + (3 : Int32)) (eS E).2, 300 = 300 ∧ inb (x3 + (4 : Int32)) (eS E).2] (by decide +kernel) rfl ⟨⟨rfl, g358⟩, ⟨rfl, g359⟩, ⟨rfl, g360⟩, ⟨rfl, g361⟩⟩ ?_
          refine rv hG z_M_weddings 125 4 1566 251 [.int ((eS E).1 (Int32.toNatClampNeg (x3 + (1 : Int32)))), .int ((eS E).1 (Int32.toNatClampNeg (x3 + (2 : Int32)))), .int ((eS E).1 (Int32.toNatClampNeg (x3 + (3 : Int32)))), .int ((eS E).1 (Int32.toNatClampNeg (x3 + (4 : Int32))))] [.int r356] (by decide +kernel) mk_M_weddings lk_13_125 rcv_251 rfl ⟨rfl, Nat.le_of_ble_eq_true rfl⟩ (c_M_weddings (d := d + 7) h357 ((eS E).1 (Int32.toNatClampNeg (x3 + (1 : Int32)))) ((eS E).1 (Int32.toNatClampNeg (x3 + (2 : Int32)))) ((eS E).1 (Int32.toNatClampNeg (x3 + (3 : Int32)))) ((eS E).1 (Int32.toNatClampNeg (x3 + (4 : Int32)))) (ok_bind hO)) ?_
          rintro _ h363 ⟨r362, rfl, hO⟩
          refine rj hG .eq (74) 1643 1569 (by decide +kernel) (by decide) (fun c364 => ?_) (fun c364 => ?_)
          · have hO := ok_pos c364 hO
            exact j1643 x3 h363 hO
          · have hO := ok_neg c364 hO
            refine rs hG [] [] rfl ?_
            exact j1572 h363 (ok_inr hO)
        have hO := ok_neg c351 hO
        refine sw_c (26 : Int32) (by decide) (fun c365 => ?_) (fun c365 => ?_)
        · have hO := ok_pos c365 hO
          obtain ⟨g366, hO⟩ := ok_if hO
          refine rb hG 9 1574 1580 [.aload 1, .aload 0, .iload 3, .ldc_w 0, .iadd, .faload] [1] [] [(0, .ref 300), (1, .ref 1), (2, .ref 251), (3, .int x3)] [.int ((eS E).1 (Int32.toNatClampNeg (x3 + (1 : Int32)))), .ref 1] h [300 = 300 ∧ inb (x3 + (1 : Int32)) (eS E).2] (by decide +kernel) rfl ⟨rfl, g366⟩ ?_
          refine rv hG z_K_count 126 1 1580 1 [.int ((eS E).1 (Int32.toNatClampNeg (x3 + (1 : Int32))))] [] (by decide +kernel) mk_K_count lk_13_126 rcv_1 rfl ⟨rfl, Nat.le_of_ble_eq_true rfl⟩ (c_K_count (d := d + 13) h ((eS E).1 (Int32.toNatClampNeg (x3 + (1 : Int32)))) (ok_bind hO)) ?_
          rintro _ _ ⟨r367, rfl, rfl, hO⟩
          obtain ⟨g368, hO⟩ := ok_if hO
          refine rb hG 9 1583 1589 [.aload 2, .aload 0, .iload 3, .ldc_w 0, .iadd, .faload] [1] [] [(0, .ref 300), (1, .ref 1), (2, .ref 251), (3, .int x3)] [.int ((eS E).1 (Int32.toNatClampNeg (x3 + (1 : Int32)))), .ref 251, .int r367] h [300 = 300 ∧ inb (x3 + (1 : Int32)) (eS E).2] (by decide +kernel) rfl ⟨rfl, g368⟩ ?_
          refine rv hG z_M_count 129 1 1589 251 [.int ((eS E).1 (Int32.toNatClampNeg (x3 + (1 : Int32))))] [.int r367] (by decide +kernel) mk_M_count lk_13_129 rcv_251 rfl ⟨rfl, Nat.le_of_ble_eq_true rfl⟩ (c_M_count (d := d + 14) h ((eS E).1 (Int32.toNatClampNeg (x3 + (1 : Int32)))) (ok_bind hO)) ?_
          rintro _ h370 ⟨r369, rfl, hO⟩
          refine rj hG .eq (51) 1643 1592 (by decide +kernel) (by decide) (fun c371 => ?_) (fun c371 => ?_)
          · have hO := ok_pos c371 hO
            exact j1643 x3 h370 hO
          · have hO := ok_neg c371 hO
            refine rs hG [] [] rfl ?_
            exact j1595 h370 (ok_inr hO)
        have hO := ok_neg c365 hO
        refine sw_c (27 : Int32) (by decide) (fun c372 => ?_) (fun c372 => ?_)
        · have hO := ok_pos c372 hO
          obtain ⟨g373, hO⟩ := ok_if hO
          refine rb hG 9 1597 1603 [.aload 1, .aload 0, .iload 3, .ldc_w 0, .iadd, .faload] [1] [] [(0, .ref 300), (1, .ref 1), (2, .ref 251), (3, .int x3)] [.int ((eS E).1 (Int32.toNatClampNeg (x3 + (1 : Int32)))), .ref 1] h [300 = 300 ∧ inb (x3 + (1 : Int32)) (eS E).2] (by decide +kernel) rfl ⟨rfl, g373⟩ ?_
          refine rv hG z_K_image 130 1 1603 1 [.int ((eS E).1 (Int32.toNatClampNeg (x3 + (1 : Int32))))] [] (by decide +kernel) mk_K_image lk_13_130 rcv_1 rfl ⟨rfl, Nat.le_of_ble_eq_true rfl⟩ (c_K_image (d := d + 11) h ((eS E).1 (Int32.toNatClampNeg (x3 + (1 : Int32)))) (ok_bind hO)) ?_
          rintro _ h375 ⟨r374, rfl, hO⟩
          obtain ⟨g376, hO⟩ := ok_if hO
          refine rb hG 9 1606 1612 [.aload 2, .aload 0, .iload 3, .ldc_w 0, .iadd, .faload] [1] [] [(0, .ref 300), (1, .ref 1), (2, .ref 251), (3, .int x3)] [.int ((eS E).1 (Int32.toNatClampNeg (x3 + (1 : Int32)))), .ref 251, .int r374] h375 [300 = 300 ∧ inb (x3 + (1 : Int32)) (eS E).2] (by decide +kernel) rfl ⟨rfl, g376⟩ ?_
          refine rv hG z_M_image 134 1 1612 251 [.int ((eS E).1 (Int32.toNatClampNeg (x3 + (1 : Int32))))] [.int r374] (by decide +kernel) mk_M_image lk_13_134 rcv_251 rfl ⟨rfl, Nat.le_of_ble_eq_true rfl⟩ (c_M_image (d := d + 13) h375 ((eS E).1 (Int32.toNatClampNeg (x3 + (1 : Int32)))) (ok_bind hO)) ?_
          rintro _ h378 ⟨r377, rfl, hO⟩
          refine rj hG .eq (28) 1643 1615 (by decide +kernel) (by decide) (fun c379 => ?_) (fun c379 => ?_)
          · have hO := ok_pos c379 hO
            exact j1643 x3 h378 hO
          · have hO := ok_neg c379 hO
            refine rs hG [] [] rfl ?_
            exact j1618 h378 (ok_inr hO)
        have hO := ok_neg c372 hO
        refine sw_c (28 : Int32) (by decide) (fun c380 => ?_) (fun c380 => ?_)
        · have hO := ok_pos c380 hO
          obtain ⟨g381, hO⟩ := ok_if hO
          refine rb hG 9 1620 1626 [.aload 1, .aload 0, .iload 3, .ldc_w 0, .iadd, .faload] [1] [] [(0, .ref 300), (1, .ref 1), (2, .ref 251), (3, .int x3)] [.int ((eS E).1 (Int32.toNatClampNeg (x3 + (1 : Int32)))), .ref 1] h [300 = 300 ∧ inb (x3 + (1 : Int32)) (eS E).2] (by decide +kernel) rfl ⟨rfl, g381⟩ ?_
          refine rv hG z_K_again 135 1 1626 1 [.int ((eS E).1 (Int32.toNatClampNeg (x3 + (1 : Int32))))] [] (by decide +kernel) mk_K_again lk_13_135 rcv_1 rfl ⟨rfl, Nat.le_of_ble_eq_true rfl⟩ (c_K_again (d := d + 11) h ((eS E).1 (Int32.toNatClampNeg (x3 + (1 : Int32)))) (ok_bind hO)) ?_
          rintro _ h383 ⟨r382, rfl, hO⟩
          obtain ⟨g384, hO⟩ := ok_if hO
          refine rb hG 9 1629 1635 [.aload 2, .aload 0, .iload 3, .ldc_w 0, .iadd, .faload] [1] [] [(0, .ref 300), (1, .ref 1), (2, .ref 251), (3, .int x3)] [.int ((eS E).1 (Int32.toNatClampNeg (x3 + (1 : Int32)))), .ref 251, .int r382] h383 [300 = 300 ∧ inb (x3 + (1 : Int32)) (eS E).2] (by decide +kernel) rfl ⟨rfl, g384⟩ ?_
          refine rv hG z_M_again 138 1 1635 251 [.int ((eS E).1 (Int32.toNatClampNeg (x3 + (1 : Int32))))] [.int r382] (by decide +kernel) mk_M_again lk_13_138 rcv_251 rfl ⟨rfl, Nat.le_of_ble_eq_true rfl⟩ (c_M_again (d := d + 13) h383 ((eS E).1 (Int32.toNatClampNeg (x3 + (1 : Int32)))) (ok_bind hO)) ?_
          rintro _ h386 ⟨r385, rfl, hO⟩
          refine rj hG .eq (5) 1643 1638 (by decide +kernel) (by decide) (fun c387 => ?_) (fun c387 => ?_)
          · have hO := ok_pos c387 hO
            exact j1643 x3 h386 hO
          · have hO := ok_neg c387 hO
            refine rs hG [] [] rfl ?_
            exact j1641 h386 (ok_inr hO)
        have hO := ok_neg c380 hO
        show G 1643 _ _ _
        exact j1643 x3 h hO
    rw [eH18] at w9
    exact w9
  refine rb hG 5 16 18 [.ldc_w 0, .istore 3] [0] [] [(3, .int (0 : Int32)), (0, .ref 300), (1, .ref 1), (2, .ref 251)] [] h [] (by decide +kernel) rfl trivial ?_
  refine rs hG [(0, .ref 300), (1, .ref 1), (2, .ref 251), (3, .int (0 : Int32))] [1, 2, 3, 0] rfl ?_
  exact l18 (0 : Int32) h hO
