def SL_law_18 (E : EN) (ce sl : Nat) (Z : List Frame → Array Value → State → State → Prop) (x3 : Int32) (h : TH) : Prop := ((((Int32.ofNat (eN E)) - 5) < x3 → wz E ML ce sl Z 1202 [some (.ref (1000 + 2)), some (rf 0 0), some (rf 28 0), some (.int x3)] [.int 1] h) ∧ (¬ ((Int32.ofNat (eN E)) - 5) < x3 → vp_in x3 (eN E) ∧ ((((eS E (x3.toNatClampNeg)) &&& 31) = (0 : Int32) → vp_in (x3 + 1) (eN E) ∧ wi E MX6_party (fun r6 h5 => vp_in (x3 + 1) (eN E) ∧ wi E MX7_party (fun r9 h8 => ((r6 = r9 → wz E ML ce sl Z 18 [some (.ref (1000 + 2)), some (rf 0 0), some (rf 28 0), some (.int (x3 + 5))] [] h8) ∧ (¬ r6 = r9 → wz E ML ce sl Z 194 [some (.ref (1000 + 2)), some (rf 0 0), some (rf 28 0), some (.int x3)] [.int 0] h8))) 0 [some (rf 28 0), some (.int (eS E ((x3 + 1).toNatClampNeg)))] [] h5) 0 [some (rf 0 0), some (.int (eS E ((x3 + 1).toNatClampNeg)))] [] h) ∧ (((eS E (x3.toNatClampNeg)) &&& 31) = (1 : Int32) → vp_in (x3 + 1) (eN E) ∧ vp_in (x3 + 2) (eN E) ∧ wi E MX6_as (fun r15 h14 => vp_in (x3 + 1) (eN E) ∧ vp_in (x3 + 2) (eN E) ∧ wi E MX7_as (fun r19 h18 => ((r15 = r19 → wz E ML ce sl Z 18 [some (.ref (1000 + 2)), some (rf 0 0), some (rf 28 0), some (.int (x3 + 5))] [] h18) ∧ (¬ r15 = r19 → wz E ML ce sl Z 227 [some (.ref (1000 + 2)), some (rf 0 0), some (rf 28 0), some (.int x3)] [.int 0] h18))) 0 [some (rf 28 0), some (.int (eS E ((x3 + 1).toNatClampNeg))), some (.int (eS E ((x3 + 2).toNatClampNeg))), none, none] [] h14) 0 [some (rf 0 0), some (.int (eS E ((x3 + 1).toNatClampNeg))), some (.int (eS E ((x3 + 2).toNatClampNeg)))] [] h) ∧ (((eS E (x3.toNatClampNeg)) &&& 31) = (2 : Int32) → vp_in (x3 + 1) (eN E) ∧ vp_in (x3 + 2) (eN E) ∧ vp_in (x3 + 3) (eN E) ∧ wi E MX6_contract (fun r26 h25 => vp_in (x3 + 1) (eN E) ∧ vp_in (x3 + 2) (eN E) ∧ vp_in (x3 + 3) (eN E) ∧ wi E MX7_contract (fun r31 h30 => ((r26 = r31 → wz E ML ce sl Z 18 [some (.ref (1000 + 2)), some (rf 0 0), some (rf 28 0), some (.int (x3 + 5))] [] h30) ∧ (¬ r26 = r31 → wz E ML ce sl Z 270 [some (.ref (1000 + 2)), some (rf 0 0), some (rf 28 0), some (.int x3)] [.int 0] h30))) 0 [some (rf 28 0), some (.int (eS E ((x3 + 1).toNatClampNeg))), some (.int (eS E ((x3 + 2).toNatClampNeg))), some (.int (eS E ((x3 + 3).toNatClampNeg))), none] [] h25) 0 [some (rf 0 0), some (.int (eS E ((x3 + 1).toNatClampNeg))), some (.int (eS E ((x3 + 2).toNatClampNeg))), some (.int (eS E ((x3 + 3).toNatClampNeg))), none] [] h) ∧ (((eS E (x3.toNatClampNeg)) &&& 31) = (3 : Int32) → vp_in (x3 + 1) (eN E) ∧ vp_in (x3 + 2) (eN E) ∧ wi E MX6_extra (fun r37 h36 => vp_in (x3 + 1) (eN E) ∧ vp_in (x3 + 2) (eN E) ∧ wi E MX7_extra (fun r41 h40 => ((r37 = r41 → wz E ML ce sl Z 18 [some (.ref (1000 + 2)), some (rf 0 0), some (rf 28 0), some (.int (x3 + 5))] [] h40) ∧ (¬ r37 = r41 → wz E ML ce sl Z 303 [some (.ref (1000 + 2)), some (rf 0 0), some (rf 28 0), some (.int x3)] [.int 0] h40))) 0 [some (rf 28 0), some (.int (eS E ((x3 + 1).toNatClampNeg))), some (.int (eS E ((x3 + 2).toNatClampNeg)))] [] h36) 0 [some (rf 0 0), some (.int (eS E ((x3 + 1).toNatClampNeg))), some (.int (eS E ((x3 + 2).toNatClampNeg))), none] [] h) ∧ (((eS E (x3.toNatClampNeg)) &&& 31) = (4 : Int32) → vp_in (x3 + 1) (eN E) ∧ vp_in (x3 + 2) (eN E) ∧ vp_in (x3 + 3) (eN E) ∧ wi E MX6_began (fun r48 h47 => vp_in (x3 + 1) (eN E) ∧ vp_in (x3 + 2) (eN E) ∧ vp_in (x3 + 3) (eN E) ∧ wi E MX7_began (fun r53 h52 => ((r48 = r53 → wz E ML ce sl Z 18 [some (.ref (1000 + 2)), some (rf 0 0), some (rf 28 0), some (.int (x3 + 5))] [] h52) ∧ (¬ r48 = r53 → wz E ML ce sl Z 346 [some (.ref (1000 + 2)), some (rf 0 0), some (rf 28 0), some (.int x3)] [.int 0] h52))) 0 [some (rf 28 0), some (.int (eS E ((x3 + 1).toNatClampNeg))), some (.int (eS E ((x3 + 2).toNatClampNeg))), some (.int (eS E ((x3 + 3).toNatClampNeg)))] [] h47) 0 [some (rf 0 0), some (.int (eS E ((x3 + 1).toNatClampNeg))), some (.int (eS E ((x3 + 2).toNatClampNeg))), some (.int (eS E ((x3 + 3).toNatClampNeg))), none] [] h) ∧ (((eS E (x3.toNatClampNeg)) &&& 31) = (5 : Int32) → vp_in (x3 + 1) (eN E) ∧ vp_in (x3 + 2) (eN E) ∧ vp_in (x3 + 3) (eN E) ∧ wi E MX6_ended (fun r60 h59 => vp_in (x3 + 1) (eN E) ∧ vp_in (x3 + 2) (eN E) ∧ vp_in (x3 + 3) (eN E) ∧ wi E MX7_ended (fun r65 h64 => ((r60 = r65 → wz E ML ce sl Z 18 [some (.ref (1000 + 2)), some (rf 0 0), some (rf 28 0), some (.int (x3 + 5))] [] h64) ∧ (¬ r60 = r65 → wz E ML ce sl Z 389 [some (.ref (1000 + 2)), some (rf 0 0), some (rf 28 0), some (.int x3)] [.int 0] h64))) 0 [some (rf 28 0), some (.int (eS E ((x3 + 1).toNatClampNeg))), some (.int (eS E ((x3 + 2).toNatClampNeg))), some (.int (eS E ((x3 + 3).toNatClampNeg)))] [] h59) 0 [some (rf 0 0), some (.int (eS E ((x3 + 1).toNatClampNeg))), some (.int (eS E ((x3 + 2).toNatClampNeg))), some (.int (eS E ((x3 + 3).toNatClampNeg))), none] [] h) ∧ (((eS E (x3.toNatClampNeg)) &&& 31) = (6 : Int32) → vp_in (x3 + 1) (eN E) ∧ wi E MX6_notice (fun r70 h69 => vp_in (x3 + 1) (eN E) ∧ wi E MX7_notice (fun r73 h72 => ((r70 = r73 → wz E ML ce sl Z 18 [some (.ref (1000 + 2)), some (rf 0 0), some (rf 28 0), some (.int (x3 + 5))] [] h72) ∧ (¬ r70 = r73 → wz E ML ce sl Z 412 [some (.ref (1000 + 2)), some (rf 0 0), some (rf 28 0), some (.int x3)] [.int 0] h72))) 0 [some (rf 28 0), some (.int (eS E ((x3 + 1).toNatClampNeg)))] [] h69) 0 [some (rf 0 0), some (.int (eS E ((x3 + 1).toNatClampNeg))), none] [] h) ∧ (((eS E (x3.toNatClampNeg)) &&& 31) = (7 : Int32) → vp_in (x3 + 1) (eN E) ∧ vp_in (x3 + 2) (eN E) ∧ wi E MX6_pay (fun r79 h78 => vp_in (x3 + 1) (eN E) ∧ vp_in (x3 + 2) (eN E) ∧ wi E MX7_pay (fun r83 h82 => ((r79 = r83 → wz E ML ce sl Z 18 [some (.ref (1000 + 2)), some (rf 0 0), some (rf 28 0), some (.int (x3 + 5))] [] h82) ∧ (¬ r79 = r83 → wz E ML ce sl Z 445 [some (.ref (1000 + 2)), some (rf 0 0), some (rf 28 0), some (.int x3)] [.int 0] h82))) 0 [some (rf 28 0), some (.int (eS E ((x3 + 1).toNatClampNeg))), some (.int (eS E ((x3 + 2).toNatClampNeg)))] [] h78) 0 [some (rf 0 0), some (.int (eS E ((x3 + 1).toNatClampNeg))), some (.int (eS E ((x3 + 2).toNatClampNeg))), none] [] h) ∧ (((eS E (x3.toNatClampNeg)) &&& 31) = (8 : Int32) → vp_in (x3 + 1) (eN E) ∧ vp_in (x3 + 2) (eN E) ∧ vp_in (x3 + 3) (eN E) ∧ wi E MX6_waive (fun r90 h89 => vp_in (x3 + 1) (eN E) ∧ vp_in (x3 + 2) (eN E) ∧ vp_in (x3 + 3) (eN E) ∧ wi E MX7_waive (fun r95 h94 => ((r90 = r95 → wz E ML ce sl Z 18 [some (.ref (1000 + 2)), some (rf 0 0), some (rf 28 0), some (.int (x3 + 5))] [] h94) ∧ (¬ r90 = r95 → wz E ML ce sl Z 488 [some (.ref (1000 + 2)), some (rf 0 0), some (rf 28 0), some (.int x3)] [.int 0] h94))) 0 [some (rf 28 0), some (.int (eS E ((x3 + 1).toNatClampNeg))), some (.int (eS E ((x3 + 2).toNatClampNeg))), some (.int (eS E ((x3 + 3).toNatClampNeg)))] [] h89) 0 [some (rf 0 0), some (.int (eS E ((x3 + 1).toNatClampNeg))), some (.int (eS E ((x3 + 2).toNatClampNeg))), some (.int (eS E ((x3 + 3).toNatClampNeg)))] [] h) ∧ (((eS E (x3.toNatClampNeg)) &&& 31) = (9 : Int32) → vp_in (x3 + 1) (eN E) ∧ vp_in (x3 + 2) (eN E) ∧ wi E MX6_of (fun r101 h100 => vp_in (x3 + 1) (eN E) ∧ vp_in (x3 + 2) (eN E) ∧ wi E MX7_of (fun r105 h104 => ((r101 = r105 → wz E ML ce sl Z 18 [some (.ref (1000 + 2)), some (rf 0 0), some (rf 28 0), some (.int (x3 + 5))] [] h104) ∧ (¬ r101 = r105 → wz E ML ce sl Z 521 [some (.ref (1000 + 2)), some (rf 0 0), some (rf 28 0), some (.int x3)] [.int 0] h104))) 0 [some (rf 28 0), some (.int (eS E ((x3 + 1).toNatClampNeg))), some (.int (eS E ((x3 + 2).toNatClampNeg)))] [] h100) 0 [some (rf 0 0), some (.int (eS E ((x3 + 1).toNatClampNeg))), some (.int (eS E ((x3 + 2).toNatClampNeg)))] [] h) ∧ (((eS E (x3.toNatClampNeg)) &&& 31) = (10 : Int32) → vp_in (x3 + 1) (eN E) ∧ wi E MX6_day (fun r110 h109 => vp_in (x3 + 1) (eN E) ∧ wi E MX7_day (fun r113 h112 => ((r110 = r113 → wz E ML ce sl Z 18 [some (.ref (1000 + 2)), some (rf 0 0), some (rf 28 0), some (.int (x3 + 5))] [] h112) ∧ (¬ r110 = r113 → wz E ML ce sl Z 544 [some (.ref (1000 + 2)), some (rf 0 0), some (rf 28 0), some (.int x3)] [.int 0] h112))) 0 [some (rf 28 0), some (.int (eS E ((x3 + 1).toNatClampNeg))), none] [] h109) 0 [some (rf 0 0), some (.int (eS E ((x3 + 1).toNatClampNeg))), none] [] h) ∧ (((eS E (x3.toNatClampNeg)) &&& 31) = (11 : Int32) → vp_in (x3 + 1) (eN E) ∧ vp_in (x3 + 2) (eN E) ∧ wi E MX6_law (fun r119 h118 => vp_in (x3 + 1) (eN E) ∧ vp_in (x3 + 2) (eN E) ∧ wi E MX7_law (fun r123 h122 => ((r119 = r123 → wz E ML ce sl Z 18 [some (.ref (1000 + 2)), some (rf 0 0), some (rf 28 0), some (.int (x3 + 5))] [] h122) ∧ (¬ r119 = r123 → wz E ML ce sl Z 577 [some (.ref (1000 + 2)), some (rf 0 0), some (rf 28 0), some (.int x3)] [.int 0] h122))) 0 [some (rf 28 0), some (.int (eS E ((x3 + 1).toNatClampNeg))), some (.int (eS E ((x3 + 2).toNatClampNeg))), none] [] h118) 0 [some (rf 0 0), some (.int (eS E ((x3 + 1).toNatClampNeg))), some (.int (eS E ((x3 + 2).toNatClampNeg))), none] [] h) ∧ (((eS E (x3.toNatClampNeg)) &&& 31) = (12 : Int32) → vp_in (x3 + 1) (eN E) ∧ vp_in (x3 + 2) (eN E) ∧ wi E MX6_file (fun r129 h128 => vp_in (x3 + 1) (eN E) ∧ vp_in (x3 + 2) (eN E) ∧ wi E MX7_file (fun r133 h132 => ((r129 = r133 → wz E ML ce sl Z 18 [some (.ref (1000 + 2)), some (rf 0 0), some (rf 28 0), some (.int (x3 + 5))] [] h132) ∧ (¬ r129 = r133 → wz E ML ce sl Z 610 [some (.ref (1000 + 2)), some (rf 0 0), some (rf 28 0), some (.int x3)] [.int 0] h132))) 0 [some (rf 28 0), some (.int (eS E ((x3 + 1).toNatClampNeg))), some (.int (eS E ((x3 + 2).toNatClampNeg)))] [] h128) 0 [some (rf 0 0), some (.int (eS E ((x3 + 1).toNatClampNeg))), some (.int (eS E ((x3 + 2).toNatClampNeg)))] [] h) ∧ (((eS E (x3.toNatClampNeg)) &&& 31) = (13 : Int32) → vp_in (x3 + 1) (eN E) ∧ wi E MX6_sue (fun r138 h137 => vp_in (x3 + 1) (eN E) ∧ wi E MX7_sue (fun r141 h140 => ((r138 = r141 → wz E ML ce sl Z 18 [some (.ref (1000 + 2)), some (rf 0 0), some (rf 28 0), some (.int (x3 + 5))] [] h140) ∧ (¬ r138 = r141 → wz E ML ce sl Z 633 [some (.ref (1000 + 2)), some (rf 0 0), some (rf 28 0), some (.int x3)] [.int 0] h140))) 0 [some (rf 28 0), some (.int (eS E ((x3 + 1).toNatClampNeg)))] [] h137) 0 [some (rf 0 0), some (.int (eS E ((x3 + 1).toNatClampNeg))), none] [] h) ∧ (((eS E (x3.toNatClampNeg)) &&& 31) = (14 : Int32) → vp_in (x3 + 1) (eN E) ∧ vp_in (x3 + 2) (eN E) ∧ wi E MX6_bond (fun r147 h146 => vp_in (x3 + 1) (eN E) ∧ vp_in (x3 + 2) (eN E) ∧ wi E MX7_bond (fun r151 h150 => ((r147 = r151 → wz E ML ce sl Z 18 [some (.ref (1000 + 2)), some (rf 0 0), some (rf 28 0), some (.int (x3 + 5))] [] h150) ∧ (¬ r147 = r151 → wz E ML ce sl Z 666 [some (.ref (1000 + 2)), some (rf 0 0), some (rf 28 0), some (.int x3)] [.int 0] h150))) 0 [some (rf 28 0), some (.int (eS E ((x3 + 1).toNatClampNeg))), some (.int (eS E ((x3 + 2).toNatClampNeg))), none] [] h146) 0 [some (rf 0 0), some (.int (eS E ((x3 + 1).toNatClampNeg))), some (.int (eS E ((x3 + 2).toNatClampNeg))), none, none] [] h) ∧ (((eS E (x3.toNatClampNeg)) &&& 31) = (15 : Int32) → vp_in (x3 + 1) (eN E) ∧ vp_in (x3 + 2) (eN E) ∧ wi E MX6_judge (fun r157 h156 => vp_in (x3 + 1) (eN E) ∧ vp_in (x3 + 2) (eN E) ∧ wi E MX7_judge (fun r161 h160 => ((r157 = r161 → wz E ML ce sl Z 18 [some (.ref (1000 + 2)), some (rf 0 0), some (rf 28 0), some (.int (x3 + 5))] [] h160) ∧ (¬ r157 = r161 → wz E ML ce sl Z 699 [some (.ref (1000 + 2)), some (rf 0 0), some (rf 28 0), some (.int x3)] [.int 0] h160))) 0 [some (rf 28 0), some (.int (eS E ((x3 + 1).toNatClampNeg))), some (.int (eS E ((x3 + 2).toNatClampNeg)))] [] h156) 0 [some (rf 0 0), some (.int (eS E ((x3 + 1).toNatClampNeg))), some (.int (eS E ((x3 + 2).toNatClampNeg)))] [] h) ∧ (((eS E (x3.toNatClampNeg)) &&& 31) = (16 : Int32) → vp_in (x3 + 1) (eN E) ∧ vp_in (x3 + 2) (eN E) ∧ wi E MX6_bar (fun r167 h166 => vp_in (x3 + 1) (eN E) ∧ vp_in (x3 + 2) (eN E) ∧ wi E MX7_bar (fun r171 h170 => ((r167 = r171 → wz E ML ce sl Z 18 [some (.ref (1000 + 2)), some (rf 0 0), some (rf 28 0), some (.int (x3 + 5))] [] h170) ∧ (¬ r167 = r171 → wz E ML ce sl Z 732 [some (.ref (1000 + 2)), some (rf 0 0), some (rf 28 0), some (.int x3)] [.int 0] h170))) 0 [some (rf 28 0), some (.int (eS E ((x3 + 1).toNatClampNeg))), some (.int (eS E ((x3 + 2).toNatClampNeg))), none, none] [] h166) 0 [some (rf 0 0), some (.int (eS E ((x3 + 1).toNatClampNeg))), some (.int (eS E ((x3 + 2).toNatClampNeg)))] [] h) ∧ (((eS E (x3.toNatClampNeg)) &&& 31) = (17 : Int32) → vp_in (x3 + 1) (eN E) ∧ vp_in (x3 + 2) (eN E) ∧ wi E MX6_worth (fun r177 h176 => vp_in (x3 + 1) (eN E) ∧ vp_in (x3 + 2) (eN E) ∧ wi E MX7_worth (fun r181 h180 => ((r177 = r181 → wz E ML ce sl Z 18 [some (.ref (1000 + 2)), some (rf 0 0), some (rf 28 0), some (.int (x3 + 5))] [] h180) ∧ (¬ r177 = r181 → wz E ML ce sl Z 765 [some (.ref (1000 + 2)), some (rf 0 0), some (rf 28 0), some (.int x3)] [.int 0] h180))) 0 [some (rf 28 0), some (.int (eS E ((x3 + 1).toNatClampNeg))), some (.int (eS E ((x3 + 2).toNatClampNeg)))] [] h176) 0 [some (rf 0 0), some (.int (eS E ((x3 + 1).toNatClampNeg))), some (.int (eS E ((x3 + 2).toNatClampNeg)))] [] h) ∧ (((eS E (x3.toNatClampNeg)) &&& 31) = (18 : Int32) → vp_in (x3 + 1) (eN E) ∧ vp_in (x3 + 2) (eN E) ∧ wi E MX6_rank (fun r187 h186 => vp_in (x3 + 1) (eN E) ∧ vp_in (x3 + 2) (eN E) ∧ wi E MX7_rank (fun r191 h190 => ((r187 = r191 → wz E ML ce sl Z 18 [some (.ref (1000 + 2)), some (rf 0 0), some (rf 28 0), some (.int (x3 + 5))] [] h190) ∧ (¬ r187 = r191 → wz E ML ce sl Z 798 [some (.ref (1000 + 2)), some (rf 0 0), some (rf 28 0), some (.int x3)] [.int 0] h190))) 0 [some (rf 28 0), some (.int (eS E ((x3 + 1).toNatClampNeg))), some (.int (eS E ((x3 + 2).toNatClampNeg)))] [] h186) 0 [some (rf 0 0), some (.int (eS E ((x3 + 1).toNatClampNeg))), some (.int (eS E ((x3 + 2).toNatClampNeg)))] [] h) ∧ (((eS E (x3.toNatClampNeg)) &&& 31) = (19 : Int32) → vp_in (x3 + 1) (eN E) ∧ vp_in (x3 + 2) (eN E) ∧ wi E MX6_loan (fun r197 h196 => vp_in (x3 + 1) (eN E) ∧ vp_in (x3 + 2) (eN E) ∧ wi E MX7_loan (fun r201 h200 => ((r197 = r201 → wz E ML ce sl Z 18 [some (.ref (1000 + 2)), some (rf 0 0), some (rf 28 0), some (.int (x3 + 5))] [] h200) ∧ (¬ r197 = r201 → wz E ML ce sl Z 831 [some (.ref (1000 + 2)), some (rf 0 0), some (rf 28 0), some (.int x3)] [.int 0] h200))) 0 [some (rf 28 0), some (.int (eS E ((x3 + 1).toNatClampNeg))), some (.int (eS E ((x3 + 2).toNatClampNeg)))] [] h196) 0 [some (rf 0 0), some (.int (eS E ((x3 + 1).toNatClampNeg))), some (.int (eS E ((x3 + 2).toNatClampNeg)))] [] h) ∧ (((eS E (x3.toNatClampNeg)) &&& 31) = (20 : Int32) → vp_in (x3 + 1) (eN E) ∧ vp_in (x3 + 2) (eN E) ∧ vp_in (x3 + 3) (eN E) ∧ vp_in (x3 + 4) (eN E) ∧ wi E MX6_sale (fun r209 h208 => vp_in (x3 + 1) (eN E) ∧ vp_in (x3 + 2) (eN E) ∧ vp_in (x3 + 3) (eN E) ∧ vp_in (x3 + 4) (eN E) ∧ wi E MX7_sale (fun r215 h214 => ((r209 = r215 → wz E ML ce sl Z 18 [some (.ref (1000 + 2)), some (rf 0 0), some (rf 28 0), some (.int (x3 + 5))] [] h214) ∧ (¬ r209 = r215 → wz E ML ce sl Z 884 [some (.ref (1000 + 2)), some (rf 0 0), some (rf 28 0), some (.int x3)] [.int 0] h214))) 0 [some (rf 28 0), some (.int (eS E ((x3 + 1).toNatClampNeg))), some (.int (eS E ((x3 + 2).toNatClampNeg))), some (.int (eS E ((x3 + 3).toNatClampNeg))), some (.int (eS E ((x3 + 4).toNatClampNeg)))] [] h208) 0 [some (rf 0 0), some (.int (eS E ((x3 + 1).toNatClampNeg))), some (.int (eS E ((x3 + 2).toNatClampNeg))), some (.int (eS E ((x3 + 3).toNatClampNeg))), some (.int (eS E ((x3 + 4).toNatClampNeg)))] [] h) ∧ (((eS E (x3.toNatClampNeg)) &&& 31) = (21 : Int32) → vp_in (x3 + 1) (eN E) ∧ wi E MX6_twice (fun r220 h219 => vp_in (x3 + 1) (eN E) ∧ wi E MX7_twice (fun r223 h222 => ((r220 = r223 → wz E ML ce sl Z 18 [some (.ref (1000 + 2)), some (rf 0 0), some (rf 28 0), some (.int (x3 + 5))] [] h222) ∧ (¬ r220 = r223 → wz E ML ce sl Z 907 [some (.ref (1000 + 2)), some (rf 0 0), some (rf 28 0), some (.int x3)] [.int 0] h222))) 0 [some (rf 28 0), some (.int (eS E ((x3 + 1).toNatClampNeg))), none, none] [] h219) 0 [some (rf 0 0), some (.int (eS E ((x3 + 1).toNatClampNeg))), none] [] h) ∧ (((eS E (x3.toNatClampNeg)) &&& 31) = (22 : Int32) → vp_in (x3 + 1) (eN E) ∧ vp_in (x3 + 2) (eN E) ∧ vp_in (x3 + 3) (eN E) ∧ wi E MX6_sign (fun r230 h229 => vp_in (x3 + 1) (eN E) ∧ vp_in (x3 + 2) (eN E) ∧ vp_in (x3 + 3) (eN E) ∧ wi E MX7_sign (fun r235 h234 => ((r230 = r235 → wz E ML ce sl Z 18 [some (.ref (1000 + 2)), some (rf 0 0), some (rf 28 0), some (.int (x3 + 5))] [] h234) ∧ (¬ r230 = r235 → wz E ML ce sl Z 950 [some (.ref (1000 + 2)), some (rf 0 0), some (rf 28 0), some (.int x3)] [.int 0] h234))) 0 [some (rf 28 0), some (.int (eS E ((x3 + 1).toNatClampNeg))), some (.int (eS E ((x3 + 2).toNatClampNeg))), some (.int (eS E ((x3 + 3).toNatClampNeg))), none, none, none, none, none] [] h229) 0 [some (rf 0 0), some (.int (eS E ((x3 + 1).toNatClampNeg))), some (.int (eS E ((x3 + 2).toNatClampNeg))), some (.int (eS E ((x3 + 3).toNatClampNeg))), none] [] h) ∧ (((eS E (x3.toNatClampNeg)) &&& 31) = (23 : Int32) → vp_in (x3 + 1) (eN E) ∧ vp_in (x3 + 2) (eN E) ∧ vp_in (x3 + 3) (eN E) ∧ wi E MX6_in (fun r242 h241 => vp_in (x3 + 1) (eN E) ∧ vp_in (x3 + 2) (eN E) ∧ vp_in (x3 + 3) (eN E) ∧ wi E MX7_in (fun r247 h246 => ((r242 = r247 → wz E ML ce sl Z 18 [some (.ref (1000 + 2)), some (rf 0 0), some (rf 28 0), some (.int (x3 + 5))] [] h246) ∧ (¬ r242 = r247 → wz E ML ce sl Z 993 [some (.ref (1000 + 2)), some (rf 0 0), some (rf 28 0), some (.int x3)] [.int 0] h246))) 0 [some (rf 28 0), some (.int (eS E ((x3 + 1).toNatClampNeg))), some (.int (eS E ((x3 + 2).toNatClampNeg))), some (.int (eS E ((x3 + 3).toNatClampNeg)))] [] h241) 0 [some (rf 0 0), some (.int (eS E ((x3 + 1).toNatClampNeg))), some (.int (eS E ((x3 + 2).toNatClampNeg))), some (.int (eS E ((x3 + 3).toNatClampNeg)))] [] h) ∧ (((eS E (x3.toNatClampNeg)) &&& 31) = (24 : Int32) → vp_in (x3 + 1) (eN E) ∧ vp_in (x3 + 2) (eN E) ∧ wi E MX6_out (fun r253 h252 => vp_in (x3 + 1) (eN E) ∧ vp_in (x3 + 2) (eN E) ∧ wi E MX7_out (fun r257 h256 => ((r253 = r257 → wz E ML ce sl Z 18 [some (.ref (1000 + 2)), some (rf 0 0), some (rf 28 0), some (.int (x3 + 5))] [] h256) ∧ (¬ r253 = r257 → wz E ML ce sl Z 1026 [some (.ref (1000 + 2)), some (rf 0 0), some (rf 28 0), some (.int x3)] [.int 0] h256))) 0 [some (rf 28 0), some (.int (eS E ((x3 + 1).toNatClampNeg))), some (.int (eS E ((x3 + 2).toNatClampNeg)))] [] h252) 0 [some (rf 0 0), some (.int (eS E ((x3 + 1).toNatClampNeg))), some (.int (eS E ((x3 + 2).toNatClampNeg))), none] [] h) ∧ (((eS E (x3.toNatClampNeg)) &&& 31) = (25 : Int32) → vp_in (x3 + 1) (eN E) ∧ vp_in (x3 + 2) (eN E) ∧ wi E MX6_trace (fun r263 h262 => vp_in (x3 + 1) (eN E) ∧ vp_in (x3 + 2) (eN E) ∧ wi E MX7_trace (fun r267 h266 => ((r263 = r267 → wz E ML ce sl Z 18 [some (.ref (1000 + 2)), some (rf 0 0), some (rf 28 0), some (.int (x3 + 5))] [] h266) ∧ (¬ r263 = r267 → wz E ML ce sl Z 1059 [some (.ref (1000 + 2)), some (rf 0 0), some (rf 28 0), some (.int x3)] [.int 0] h266))) 0 [some (rf 28 0), some (.int (eS E ((x3 + 1).toNatClampNeg))), some (.int (eS E ((x3 + 2).toNatClampNeg)))] [] h262) 0 [some (rf 0 0), some (.int (eS E ((x3 + 1).toNatClampNeg))), some (.int (eS E ((x3 + 2).toNatClampNeg)))] [] h) ∧ (((eS E (x3.toNatClampNeg)) &&& 31) = (26 : Int32) → vp_in (x3 + 1) (eN E) ∧ vp_in (x3 + 2) (eN E) ∧ vp_in (x3 + 3) (eN E) ∧ wi E MX6_held (fun r274 h273 => vp_in (x3 + 1) (eN E) ∧ vp_in (x3 + 2) (eN E) ∧ vp_in (x3 + 3) (eN E) ∧ wi E MX7_held (fun r279 h278 => ((r274 = r279 → wz E ML ce sl Z 18 [some (.ref (1000 + 2)), some (rf 0 0), some (rf 28 0), some (.int (x3 + 5))] [] h278) ∧ (¬ r274 = r279 → wz E ML ce sl Z 1102 [some (.ref (1000 + 2)), some (rf 0 0), some (rf 28 0), some (.int x3)] [.int 0] h278))) 0 [some (rf 28 0), some (.int (eS E ((x3 + 1).toNatClampNeg))), some (.int (eS E ((x3 + 2).toNatClampNeg))), some (.int (eS E ((x3 + 3).toNatClampNeg))), none, none] [] h273) 0 [some (rf 0 0), some (.int (eS E ((x3 + 1).toNatClampNeg))), some (.int (eS E ((x3 + 2).toNatClampNeg))), some (.int (eS E ((x3 + 3).toNatClampNeg)))] [] h) ∧ (((eS E (x3.toNatClampNeg)) &&& 31) = (27 : Int32) → vp_in (x3 + 1) (eN E) ∧ wi E MX6_tell (fun r284 h283 => vp_in (x3 + 1) (eN E) ∧ wi E MX7_tell (fun r287 h286 => ((r284 = r287 → wz E ML ce sl Z 18 [some (.ref (1000 + 2)), some (rf 0 0), some (rf 28 0), some (.int (x3 + 5))] [] h286) ∧ (¬ r284 = r287 → wz E ML ce sl Z 1125 [some (.ref (1000 + 2)), some (rf 0 0), some (rf 28 0), some (.int x3)] [.int 0] h286))) 0 [some (rf 28 0), some (.int (eS E ((x3 + 1).toNatClampNeg)))] [] h283) 0 [some (rf 0 0), some (.int (eS E ((x3 + 1).toNatClampNeg)))] [] h) ∧ (((eS E (x3.toNatClampNeg)) &&& 31) = (28 : Int32) → vp_in (x3 + 1) (eN E) ∧ wi E MX6_check (fun r292 h291 => vp_in (x3 + 1) (eN E) ∧ wi E MX7_check (fun r295 h294 => ((r292 = r295 → wz E ML ce sl Z 18 [some (.ref (1000 + 2)), some (rf 0 0), some (rf 28 0), some (.int (x3 + 5))] [] h294) ∧ (¬ r292 = r295 → wz E ML ce sl Z 1148 [some (.ref (1000 + 2)), some (rf 0 0), some (rf 28 0), some (.int x3)] [.int 0] h294))) 0 [some (rf 28 0), some (.int (eS E ((x3 + 1).toNatClampNeg))), none, none] [] h291) 0 [some (rf 0 0), some (.int (eS E ((x3 + 1).toNatClampNeg))), none, none] [] h) ∧ (((eS E (x3.toNatClampNeg)) &&& 31) = (29 : Int32) → vp_in (x3 + 1) (eN E) ∧ wi E MX6_count (fun r300 h299 => vp_in (x3 + 1) (eN E) ∧ wi E MX7_count (fun r303 h302 => ((r300 = r303 → wz E ML ce sl Z 18 [some (.ref (1000 + 2)), some (rf 0 0), some (rf 28 0), some (.int (x3 + 5))] [] h302) ∧ (¬ r300 = r303 → wz E ML ce sl Z 1171 [some (.ref (1000 + 2)), some (rf 0 0), some (rf 28 0), some (.int x3)] [.int 0] h302))) 0 [some (rf 28 0), some (.int (eS E ((x3 + 1).toNatClampNeg))), none, none] [] h299) 0 [some (rf 0 0), some (.int (eS E ((x3 + 1).toNatClampNeg)))] [] h) ∧ (((eS E (x3.toNatClampNeg)) &&& 31) = (30 : Int32) → vp_in (x3 + 1) (eN E) ∧ wi E MX6_found (fun r308 h307 => vp_in (x3 + 1) (eN E) ∧ wi E MX7_found (fun r311 h310 => ((r308 = r311 → wz E ML ce sl Z 18 [some (.ref (1000 + 2)), some (rf 0 0), some (rf 28 0), some (.int (x3 + 5))] [] h310) ∧ (¬ r308 = r311 → wz E ML ce sl Z 1194 [some (.ref (1000 + 2)), some (rf 0 0), some (rf 28 0), some (.int x3)] [.int 0] h310))) 0 [some (rf 28 0), some (.int (eS E ((x3 + 1).toNatClampNeg)))] [] h307) 0 [some (rf 0 0), some (.int (eS E ((x3 + 1).toNatClampNeg)))] [] h) ∧ (¬ ((eS E (x3.toNatClampNeg)) &&& 31) = (0 : Int32) → ¬ ((eS E (x3.toNatClampNeg)) &&& 31) = (1 : Int32) → ¬ ((eS E (x3.toNatClampNeg)) &&& 31) = (2 : Int32) → ¬ ((eS E (x3.toNatClampNeg)) &&& 31) = (3 : Int32) → ¬ ((eS E (x3.toNatClampNeg)) &&& 31) = (4 : Int32) → ¬ ((eS E (x3.toNatClampNeg)) &&& 31) = (5 : Int32) → ¬ ((eS E (x3.toNatClampNeg)) &&& 31) = (6 : Int32) → ¬ ((eS E (x3.toNatClampNeg)) &&& 31) = (7 : Int32) → ¬ ((eS E (x3.toNatClampNeg)) &&& 31) = (8 : Int32) → ¬ ((eS E (x3.toNatClampNeg)) &&& 31) = (9 : Int32) → ¬ ((eS E (x3.toNatClampNeg)) &&& 31) = (10 : Int32) → ¬ ((eS E (x3.toNatClampNeg)) &&& 31) = (11 : Int32) → ¬ ((eS E (x3.toNatClampNeg)) &&& 31) = (12 : Int32) → ¬ ((eS E (x3.toNatClampNeg)) &&& 31) = (13 : Int32) → ¬ ((eS E (x3.toNatClampNeg)) &&& 31) = (14 : Int32) → ¬ ((eS E (x3.toNatClampNeg)) &&& 31) = (15 : Int32) → ¬ ((eS E (x3.toNatClampNeg)) &&& 31) = (16 : Int32) → ¬ ((eS E (x3.toNatClampNeg)) &&& 31) = (17 : Int32) → ¬ ((eS E (x3.toNatClampNeg)) &&& 31) = (18 : Int32) → ¬ ((eS E (x3.toNatClampNeg)) &&& 31) = (19 : Int32) → ¬ ((eS E (x3.toNatClampNeg)) &&& 31) = (20 : Int32) → ¬ ((eS E (x3.toNatClampNeg)) &&& 31) = (21 : Int32) → ¬ ((eS E (x3.toNatClampNeg)) &&& 31) = (22 : Int32) → ¬ ((eS E (x3.toNatClampNeg)) &&& 31) = (23 : Int32) → ¬ ((eS E (x3.toNatClampNeg)) &&& 31) = (24 : Int32) → ¬ ((eS E (x3.toNatClampNeg)) &&& 31) = (25 : Int32) → ¬ ((eS E (x3.toNatClampNeg)) &&& 31) = (26 : Int32) → ¬ ((eS E (x3.toNatClampNeg)) &&& 31) = (27 : Int32) → ¬ ((eS E (x3.toNatClampNeg)) &&& 31) = (28 : Int32) → ¬ ((eS E (x3.toNatClampNeg)) &&& 31) = (29 : Int32) → ¬ ((eS E (x3.toNatClampNeg)) &&& 31) = (30 : Int32) → wz E ML ce sl Z 18 [some (.ref (1000 + 2)), some (rf 0 0), some (rf 28 0), some (.int (x3 + 5))] [] h))))
set_option maxRecDepth 20000 in
theorem sL_law_18 {E : EN} {ce sl : Nat} {Z : List Frame → Array Value → State → State → Prop} {x3 : Int32} {h : TH} (hcs : ce ≤ ML.2.2.2.2.cells ∧ sl ≤ ML.2.2.2.2.slots) (hS : SL_law_18 E ce sl Z x3 h) : wz E ML ce sl Z 18 [some (.ref (1000 + 2)), some (rf 0 0), some (rf 28 0), some (.int x3)] [] h := by
  refine q_ild3 dL_law_18 (wz_aload_n dL_law_19 rfl (wz_tLen dL_law_20 (by decide) rfl (wz_iconst dL_law_21 kiconst_5 (wz_isub dL_law_22 ?_))))
  refine wz_icmp_gt (tgt := 1201) dL_law_23 rfl (fun c1 => ?_) (fun c1 => ?_)
  · replace hS := hS.1 c1
    refine wz_iconst dL_law_1201 kiconst_1 ?_
    exact hS
  · replace hS := hS.2 c1
    refine wz_aload_n dL_law_26 rfl (q_ild3 dL_law_27 ?_)
    obtain ⟨hi2, hS⟩ := hS
    refine wz_tI (v := (eS E (x3.toNatClampNeg))) dL_law_28 (by decide) hi2 rfl (wz_bipush dL_law_29 kbipush_31 (wz_iand dL_law_31 ?_))
    by_cases q3 : ((eS E (x3.toNatClampNeg)) &&& 31) = (0 : Int32)
    · refine wz_tab1 (tgt := 172) (j := 0) dL_law_32 (by rw [q3]; decide) (by decide) (by decide) rfl rfl ?_
      replace hS := hS.1 q3
      refine q_ald1 dL_law_172 (wz_aload_n dL_law_173 rfl (q_ild3 dL_law_174 (wz_iconst dL_law_175 kiconst_1 (wz_iadd dL_law_176 ?_))))
      obtain ⟨hi4, hS⟩ := hS
      refine wz_tI (v := (eS E ((x3 + 1).toNatClampNeg))) dL_law_177 (by decide) hi4 rfl ?_
      refine wz_virtI (M := ML) (pc := 178) (M' := MX6_party) (n := 1) (As := [.int (eS E ((x3 + 1).toNatClampNeg))]) (st := []) dL_law_178 cf6 rfl go_0 gc_0 rfl cat_i okL_law_X6_party cwL_13 (Nat.le_of_ble_eq_true rfl) hcs rfl (ls0 := [some (rf 0 0), some (.int (eS E ((x3 + 1).toNatClampNeg)))]) rfl hS (fun r6 h5 hS => ?_)
      refine q_ald2 dL_law_181 (wz_aload_n dL_law_182 rfl (q_ild3 dL_law_183 (wz_iconst dL_law_184 kiconst_1 (wz_iadd dL_law_185 ?_))))
      obtain ⟨hi7, hS⟩ := hS
      refine wz_tI (v := (eS E ((x3 + 1).toNatClampNeg))) dL_law_186 (by decide) hi7 rfl ?_
      refine wz_virtI (M := ML) (pc := 187) (M' := MX7_party) (n := 1) (As := [.int (eS E ((x3 + 1).toNatClampNeg))]) (st := [.int r6]) dL_law_187 cf7 rfl go_28 gc_28 rfl cat_i okL_law_X7_party cwL_17 (Nat.le_of_ble_eq_true rfl) hcs rfl (ls0 := [some (rf 28 0), some (.int (eS E ((x3 + 1).toNatClampNeg)))]) rfl hS (fun r9 h8 hS => ?_)
      refine wz_icmp_eq (tgt := 1195) dL_law_190 rfl (fun c10 => ?_) (fun c10 => ?_)
      · replace hS := hS.1 c10
        refine q_inc3 (v := (x3 + 5)) dL_law_1195 rfl (ltL_law_3) rfl (wz_goto (tgt := 18) dL_law_1198 rfl ?_)
        exact hS
      · replace hS := hS.2 c10
        refine wz_iconst dL_law_193 kiconst_0 ?_
        exact hS
    by_cases q11 : ((eS E (x3.toNatClampNeg)) &&& 31) = (1 : Int32)
    · refine wz_tab1 (tgt := 195) (j := 1) dL_law_32 (by rw [q11]; decide) (by decide) (by decide) rfl rfl ?_
      replace hS := hS.2.1 q11
      refine q_ald1 dL_law_195 (wz_aload_n dL_law_196 rfl (q_ild3 dL_law_197 (wz_iconst dL_law_198 kiconst_1 (wz_iadd dL_law_199 ?_))))
      obtain ⟨hi12, hS⟩ := hS
      refine wz_tI (v := (eS E ((x3 + 1).toNatClampNeg))) dL_law_200 (by decide) hi12 rfl (wz_aload_n dL_law_201 rfl (q_ild3 dL_law_202 (wz_iconst dL_law_203 kiconst_2 (wz_iadd dL_law_204 ?_))))
      obtain ⟨hi13, hS⟩ := hS
      refine wz_tI (v := (eS E ((x3 + 2).toNatClampNeg))) dL_law_205 (by decide) hi13 rfl ?_
      refine wz_virtI (M := ML) (pc := 206) (M' := MX6_as) (n := 2) (As := [.int (eS E ((x3 + 1).toNatClampNeg)), .int (eS E ((x3 + 2).toNatClampNeg))]) (st := []) dL_law_206 cf6 rfl go_0 gc_0 rfl cat_ii okL_law_X6_as cwL_18 (Nat.le_of_ble_eq_true rfl) hcs rfl (ls0 := [some (rf 0 0), some (.int (eS E ((x3 + 1).toNatClampNeg))), some (.int (eS E ((x3 + 2).toNatClampNeg)))]) rfl hS (fun r15 h14 hS => ?_)
      refine q_ald2 dL_law_209 (wz_aload_n dL_law_210 rfl (q_ild3 dL_law_211 (wz_iconst dL_law_212 kiconst_1 (wz_iadd dL_law_213 ?_))))
      obtain ⟨hi16, hS⟩ := hS
      refine wz_tI (v := (eS E ((x3 + 1).toNatClampNeg))) dL_law_214 (by decide) hi16 rfl (wz_aload_n dL_law_215 rfl (q_ild3 dL_law_216 (wz_iconst dL_law_217 kiconst_2 (wz_iadd dL_law_218 ?_))))
      obtain ⟨hi17, hS⟩ := hS
      refine wz_tI (v := (eS E ((x3 + 2).toNatClampNeg))) dL_law_219 (by decide) hi17 rfl ?_
      refine wz_virtI (M := ML) (pc := 220) (M' := MX7_as) (n := 2) (As := [.int (eS E ((x3 + 1).toNatClampNeg)), .int (eS E ((x3 + 2).toNatClampNeg))]) (st := [.int r15]) dL_law_220 cf7 rfl go_28 gc_28 rfl cat_ii okL_law_X7_as cwL_22 (Nat.le_of_ble_eq_true rfl) hcs rfl (ls0 := [some (rf 28 0), some (.int (eS E ((x3 + 1).toNatClampNeg))), some (.int (eS E ((x3 + 2).toNatClampNeg))), none, none]) rfl hS (fun r19 h18 hS => ?_)
      refine wz_icmp_eq (tgt := 1195) dL_law_223 rfl (fun c20 => ?_) (fun c20 => ?_)
      · replace hS := hS.1 c20
        refine q_inc3 (v := (x3 + 5)) dL_law_1195 rfl (ltL_law_3) rfl (wz_goto (tgt := 18) dL_law_1198 rfl ?_)
        exact hS
      · replace hS := hS.2 c20
        refine wz_iconst dL_law_226 kiconst_0 ?_
        exact hS
    by_cases q21 : ((eS E (x3.toNatClampNeg)) &&& 31) = (2 : Int32)
    · refine wz_tab1 (tgt := 228) (j := 2) dL_law_32 (by rw [q21]; decide) (by decide) (by decide) rfl rfl ?_
      replace hS := hS.2.2.1 q21
      refine q_ald1 dL_law_228 (wz_aload_n dL_law_229 rfl (q_ild3 dL_law_230 (wz_iconst dL_law_231 kiconst_1 (wz_iadd dL_law_232 ?_))))
      obtain ⟨hi22, hS⟩ := hS
      refine wz_tI (v := (eS E ((x3 + 1).toNatClampNeg))) dL_law_233 (by decide) hi22 rfl (wz_aload_n dL_law_234 rfl (q_ild3 dL_law_235 (wz_iconst dL_law_236 kiconst_2 (wz_iadd dL_law_237 ?_))))
      obtain ⟨hi23, hS⟩ := hS
      refine wz_tI (v := (eS E ((x3 + 2).toNatClampNeg))) dL_law_238 (by decide) hi23 rfl (wz_aload_n dL_law_239 rfl (q_ild3 dL_law_240 (wz_iconst dL_law_241 kiconst_3 (wz_iadd dL_law_242 ?_))))
      obtain ⟨hi24, hS⟩ := hS
      refine wz_tI (v := (eS E ((x3 + 3).toNatClampNeg))) dL_law_243 (by decide) hi24 rfl ?_
      refine wz_virtI (M := ML) (pc := 244) (M' := MX6_contract) (n := 3) (As := [.int (eS E ((x3 + 1).toNatClampNeg)), .int (eS E ((x3 + 2).toNatClampNeg)), .int (eS E ((x3 + 3).toNatClampNeg))]) (st := []) dL_law_244 cf6 rfl go_0 gc_0 rfl cat_iii okL_law_X6_contract cwL_23 (Nat.le_of_ble_eq_true rfl) hcs rfl (ls0 := [some (rf 0 0), some (.int (eS E ((x3 + 1).toNatClampNeg))), some (.int (eS E ((x3 + 2).toNatClampNeg))), some (.int (eS E ((x3 + 3).toNatClampNeg))), none]) rfl hS (fun r26 h25 hS => ?_)
      refine q_ald2 dL_law_247 (wz_aload_n dL_law_248 rfl (q_ild3 dL_law_249 (wz_iconst dL_law_250 kiconst_1 (wz_iadd dL_law_251 ?_))))
      obtain ⟨hi27, hS⟩ := hS
      refine wz_tI (v := (eS E ((x3 + 1).toNatClampNeg))) dL_law_252 (by decide) hi27 rfl (wz_aload_n dL_law_253 rfl (q_ild3 dL_law_254 (wz_iconst dL_law_255 kiconst_2 (wz_iadd dL_law_256 ?_))))
      obtain ⟨hi28, hS⟩ := hS
      refine wz_tI (v := (eS E ((x3 + 2).toNatClampNeg))) dL_law_257 (by decide) hi28 rfl (wz_aload_n dL_law_258 rfl (q_ild3 dL_law_259 (wz_iconst dL_law_260 kiconst_3 (wz_iadd dL_law_261 ?_))))
      obtain ⟨hi29, hS⟩ := hS
      refine wz_tI (v := (eS E ((x3 + 3).toNatClampNeg))) dL_law_262 (by decide) hi29 rfl ?_
      refine wz_virtI (M := ML) (pc := 263) (M' := MX7_contract) (n := 3) (As := [.int (eS E ((x3 + 1).toNatClampNeg)), .int (eS E ((x3 + 2).toNatClampNeg)), .int (eS E ((x3 + 3).toNatClampNeg))]) (st := [.int r26]) dL_law_263 cf7 rfl go_28 gc_28 rfl cat_iii okL_law_X7_contract cwL_27 (Nat.le_of_ble_eq_true rfl) hcs rfl (ls0 := [some (rf 28 0), some (.int (eS E ((x3 + 1).toNatClampNeg))), some (.int (eS E ((x3 + 2).toNatClampNeg))), some (.int (eS E ((x3 + 3).toNatClampNeg))), none]) rfl hS (fun r31 h30 hS => ?_)
      refine wz_icmp_eq (tgt := 1195) dL_law_266 rfl (fun c32 => ?_) (fun c32 => ?_)
      · replace hS := hS.1 c32
        refine q_inc3 (v := (x3 + 5)) dL_law_1195 rfl (ltL_law_3) rfl (wz_goto (tgt := 18) dL_law_1198 rfl ?_)
        exact hS
      · replace hS := hS.2 c32
        refine wz_iconst dL_law_269 kiconst_0 ?_
        exact hS
    by_cases q33 : ((eS E (x3.toNatClampNeg)) &&& 31) = (3 : Int32)
    · refine wz_tab1 (tgt := 271) (j := 3) dL_law_32 (by rw [q33]; decide) (by decide) (by decide) rfl rfl ?_
      replace hS := hS.2.2.2.1 q33
      refine q_ald1 dL_law_271 (wz_aload_n dL_law_272 rfl (q_ild3 dL_law_273 (wz_iconst dL_law_274 kiconst_1 (wz_iadd dL_law_275 ?_))))
      obtain ⟨hi34, hS⟩ := hS
      refine wz_tI (v := (eS E ((x3 + 1).toNatClampNeg))) dL_law_276 (by decide) hi34 rfl (wz_aload_n dL_law_277 rfl (q_ild3 dL_law_278 (wz_iconst dL_law_279 kiconst_2 (wz_iadd dL_law_280 ?_))))
      obtain ⟨hi35, hS⟩ := hS
      refine wz_tI (v := (eS E ((x3 + 2).toNatClampNeg))) dL_law_281 (by decide) hi35 rfl ?_
      refine wz_virtI (M := ML) (pc := 282) (M' := MX6_extra) (n := 2) (As := [.int (eS E ((x3 + 1).toNatClampNeg)), .int (eS E ((x3 + 2).toNatClampNeg))]) (st := []) dL_law_282 cf6 rfl go_0 gc_0 rfl cat_ii okL_law_X6_extra cwL_28 (Nat.le_of_ble_eq_true rfl) hcs rfl (ls0 := [some (rf 0 0), some (.int (eS E ((x3 + 1).toNatClampNeg))), some (.int (eS E ((x3 + 2).toNatClampNeg))), none]) rfl hS (fun r37 h36 hS => ?_)
      refine q_ald2 dL_law_285 (wz_aload_n dL_law_286 rfl (q_ild3 dL_law_287 (wz_iconst dL_law_288 kiconst_1 (wz_iadd dL_law_289 ?_))))
      obtain ⟨hi38, hS⟩ := hS
      refine wz_tI (v := (eS E ((x3 + 1).toNatClampNeg))) dL_law_290 (by decide) hi38 rfl (wz_aload_n dL_law_291 rfl (q_ild3 dL_law_292 (wz_iconst dL_law_293 kiconst_2 (wz_iadd dL_law_294 ?_))))
      obtain ⟨hi39, hS⟩ := hS
      refine wz_tI (v := (eS E ((x3 + 2).toNatClampNeg))) dL_law_295 (by decide) hi39 rfl ?_
      refine wz_virtI (M := ML) (pc := 296) (M' := MX7_extra) (n := 2) (As := [.int (eS E ((x3 + 1).toNatClampNeg)), .int (eS E ((x3 + 2).toNatClampNeg))]) (st := [.int r37]) dL_law_296 cf7 rfl go_28 gc_28 rfl cat_ii okL_law_X7_extra cwL_31 (Nat.le_of_ble_eq_true rfl) hcs rfl (ls0 := [some (rf 28 0), some (.int (eS E ((x3 + 1).toNatClampNeg))), some (.int (eS E ((x3 + 2).toNatClampNeg)))]) rfl hS (fun r41 h40 hS => ?_)
      refine wz_icmp_eq (tgt := 1195) dL_law_299 rfl (fun c42 => ?_) (fun c42 => ?_)
      · replace hS := hS.1 c42
        refine q_inc3 (v := (x3 + 5)) dL_law_1195 rfl (ltL_law_3) rfl (wz_goto (tgt := 18) dL_law_1198 rfl ?_)
        exact hS
      · replace hS := hS.2 c42
        refine wz_iconst dL_law_302 kiconst_0 ?_
        exact hS
    by_cases q43 : ((eS E (x3.toNatClampNeg)) &&& 31) = (4 : Int32)
    · refine wz_tab1 (tgt := 304) (j := 4) dL_law_32 (by rw [q43]; decide) (by decide) (by decide) rfl rfl ?_
      replace hS := hS.2.2.2.2.1 q43
      refine q_ald1 dL_law_304 (wz_aload_n dL_law_305 rfl (q_ild3 dL_law_306 (wz_iconst dL_law_307 kiconst_1 (wz_iadd dL_law_308 ?_))))
      obtain ⟨hi44, hS⟩ := hS
      refine wz_tI (v := (eS E ((x3 + 1).toNatClampNeg))) dL_law_309 (by decide) hi44 rfl (wz_aload_n dL_law_310 rfl (q_ild3 dL_law_311 (wz_iconst dL_law_312 kiconst_2 (wz_iadd dL_law_313 ?_))))
      obtain ⟨hi45, hS⟩ := hS
      refine wz_tI (v := (eS E ((x3 + 2).toNatClampNeg))) dL_law_314 (by decide) hi45 rfl (wz_aload_n dL_law_315 rfl (q_ild3 dL_law_316 (wz_iconst dL_law_317 kiconst_3 (wz_iadd dL_law_318 ?_))))
      obtain ⟨hi46, hS⟩ := hS
      refine wz_tI (v := (eS E ((x3 + 3).toNatClampNeg))) dL_law_319 (by decide) hi46 rfl ?_
      refine wz_virtI (M := ML) (pc := 320) (M' := MX6_began) (n := 3) (As := [.int (eS E ((x3 + 1).toNatClampNeg)), .int (eS E ((x3 + 2).toNatClampNeg)), .int (eS E ((x3 + 3).toNatClampNeg))]) (st := []) dL_law_320 cf6 rfl go_0 gc_0 rfl cat_iii okL_law_X6_began cwL_32 (Nat.le_of_ble_eq_true rfl) hcs rfl (ls0 := [some (rf 0 0), some (.int (eS E ((x3 + 1).toNatClampNeg))), some (.int (eS E ((x3 + 2).toNatClampNeg))), some (.int (eS E ((x3 + 3).toNatClampNeg))), none]) rfl hS (fun r48 h47 hS => ?_)
      refine q_ald2 dL_law_323 (wz_aload_n dL_law_324 rfl (q_ild3 dL_law_325 (wz_iconst dL_law_326 kiconst_1 (wz_iadd dL_law_327 ?_))))
      obtain ⟨hi49, hS⟩ := hS
      refine wz_tI (v := (eS E ((x3 + 1).toNatClampNeg))) dL_law_328 (by decide) hi49 rfl (wz_aload_n dL_law_329 rfl (q_ild3 dL_law_330 (wz_iconst dL_law_331 kiconst_2 (wz_iadd dL_law_332 ?_))))
      obtain ⟨hi50, hS⟩ := hS
      refine wz_tI (v := (eS E ((x3 + 2).toNatClampNeg))) dL_law_333 (by decide) hi50 rfl (wz_aload_n dL_law_334 rfl (q_ild3 dL_law_335 (wz_iconst dL_law_336 kiconst_3 (wz_iadd dL_law_337 ?_))))
      obtain ⟨hi51, hS⟩ := hS
      refine wz_tI (v := (eS E ((x3 + 3).toNatClampNeg))) dL_law_338 (by decide) hi51 rfl ?_
      refine wz_virtI (M := ML) (pc := 339) (M' := MX7_began) (n := 3) (As := [.int (eS E ((x3 + 1).toNatClampNeg)), .int (eS E ((x3 + 2).toNatClampNeg)), .int (eS E ((x3 + 3).toNatClampNeg))]) (st := [.int r48]) dL_law_339 cf7 rfl go_28 gc_28 rfl cat_iii okL_law_X7_began cwL_35 (Nat.le_of_ble_eq_true rfl) hcs rfl (ls0 := [some (rf 28 0), some (.int (eS E ((x3 + 1).toNatClampNeg))), some (.int (eS E ((x3 + 2).toNatClampNeg))), some (.int (eS E ((x3 + 3).toNatClampNeg)))]) rfl hS (fun r53 h52 hS => ?_)
      refine wz_icmp_eq (tgt := 1195) dL_law_342 rfl (fun c54 => ?_) (fun c54 => ?_)
      · replace hS := hS.1 c54
        refine q_inc3 (v := (x3 + 5)) dL_law_1195 rfl (ltL_law_3) rfl (wz_goto (tgt := 18) dL_law_1198 rfl ?_)
        exact hS
      · replace hS := hS.2 c54
        refine wz_iconst dL_law_345 kiconst_0 ?_
        exact hS
    by_cases q55 : ((eS E (x3.toNatClampNeg)) &&& 31) = (5 : Int32)
    · refine wz_tab1 (tgt := 347) (j := 5) dL_law_32 (by rw [q55]; decide) (by decide) (by decide) rfl rfl ?_
      replace hS := hS.2.2.2.2.2.1 q55
      refine q_ald1 dL_law_347 (wz_aload_n dL_law_348 rfl (q_ild3 dL_law_349 (wz_iconst dL_law_350 kiconst_1 (wz_iadd dL_law_351 ?_))))
      obtain ⟨hi56, hS⟩ := hS
      refine wz_tI (v := (eS E ((x3 + 1).toNatClampNeg))) dL_law_352 (by decide) hi56 rfl (wz_aload_n dL_law_353 rfl (q_ild3 dL_law_354 (wz_iconst dL_law_355 kiconst_2 (wz_iadd dL_law_356 ?_))))
      obtain ⟨hi57, hS⟩ := hS
      refine wz_tI (v := (eS E ((x3 + 2).toNatClampNeg))) dL_law_357 (by decide) hi57 rfl (wz_aload_n dL_law_358 rfl (q_ild3 dL_law_359 (wz_iconst dL_law_360 kiconst_3 (wz_iadd dL_law_361 ?_))))
      obtain ⟨hi58, hS⟩ := hS
      refine wz_tI (v := (eS E ((x3 + 3).toNatClampNeg))) dL_law_362 (by decide) hi58 rfl ?_
      refine wz_virtI (M := ML) (pc := 363) (M' := MX6_ended) (n := 3) (As := [.int (eS E ((x3 + 1).toNatClampNeg)), .int (eS E ((x3 + 2).toNatClampNeg)), .int (eS E ((x3 + 3).toNatClampNeg))]) (st := []) dL_law_363 cf6 rfl go_0 gc_0 rfl cat_iii okL_law_X6_ended cwL_36 (Nat.le_of_ble_eq_true rfl) hcs rfl (ls0 := [some (rf 0 0), some (.int (eS E ((x3 + 1).toNatClampNeg))), some (.int (eS E ((x3 + 2).toNatClampNeg))), some (.int (eS E ((x3 + 3).toNatClampNeg))), none]) rfl hS (fun r60 h59 hS => ?_)
      refine q_ald2 dL_law_366 (wz_aload_n dL_law_367 rfl (q_ild3 dL_law_368 (wz_iconst dL_law_369 kiconst_1 (wz_iadd dL_law_370 ?_))))
      obtain ⟨hi61, hS⟩ := hS
      refine wz_tI (v := (eS E ((x3 + 1).toNatClampNeg))) dL_law_371 (by decide) hi61 rfl (wz_aload_n dL_law_372 rfl (q_ild3 dL_law_373 (wz_iconst dL_law_374 kiconst_2 (wz_iadd dL_law_375 ?_))))
      obtain ⟨hi62, hS⟩ := hS
      refine wz_tI (v := (eS E ((x3 + 2).toNatClampNeg))) dL_law_376 (by decide) hi62 rfl (wz_aload_n dL_law_377 rfl (q_ild3 dL_law_378 (wz_iconst dL_law_379 kiconst_3 (wz_iadd dL_law_380 ?_))))
      obtain ⟨hi63, hS⟩ := hS
      refine wz_tI (v := (eS E ((x3 + 3).toNatClampNeg))) dL_law_381 (by decide) hi63 rfl ?_
      refine wz_virtI (M := ML) (pc := 382) (M' := MX7_ended) (n := 3) (As := [.int (eS E ((x3 + 1).toNatClampNeg)), .int (eS E ((x3 + 2).toNatClampNeg)), .int (eS E ((x3 + 3).toNatClampNeg))]) (st := [.int r60]) dL_law_382 cf7 rfl go_28 gc_28 rfl cat_iii okL_law_X7_ended cwL_39 (Nat.le_of_ble_eq_true rfl) hcs rfl (ls0 := [some (rf 28 0), some (.int (eS E ((x3 + 1).toNatClampNeg))), some (.int (eS E ((x3 + 2).toNatClampNeg))), some (.int (eS E ((x3 + 3).toNatClampNeg)))]) rfl hS (fun r65 h64 hS => ?_)
      refine wz_icmp_eq (tgt := 1195) dL_law_385 rfl (fun c66 => ?_) (fun c66 => ?_)
      · replace hS := hS.1 c66
        refine q_inc3 (v := (x3 + 5)) dL_law_1195 rfl (ltL_law_3) rfl (wz_goto (tgt := 18) dL_law_1198 rfl ?_)
        exact hS
      · replace hS := hS.2 c66
        refine wz_iconst dL_law_388 kiconst_0 ?_
        exact hS
    by_cases q67 : ((eS E (x3.toNatClampNeg)) &&& 31) = (6 : Int32)
    · refine wz_tab1 (tgt := 390) (j := 6) dL_law_32 (by rw [q67]; decide) (by decide) (by decide) rfl rfl ?_
      replace hS := hS.2.2.2.2.2.2.1 q67
      refine q_ald1 dL_law_390 (wz_aload_n dL_law_391 rfl (q_ild3 dL_law_392 (wz_iconst dL_law_393 kiconst_1 (wz_iadd dL_law_394 ?_))))
      obtain ⟨hi68, hS⟩ := hS
      refine wz_tI (v := (eS E ((x3 + 1).toNatClampNeg))) dL_law_395 (by decide) hi68 rfl ?_
      refine wz_virtI (M := ML) (pc := 396) (M' := MX6_notice) (n := 1) (As := [.int (eS E ((x3 + 1).toNatClampNeg))]) (st := []) dL_law_396 cf6 rfl go_0 gc_0 rfl cat_i okL_law_X6_notice cwL_40 (Nat.le_of_ble_eq_true rfl) hcs rfl (ls0 := [some (rf 0 0), some (.int (eS E ((x3 + 1).toNatClampNeg))), none]) rfl hS (fun r70 h69 hS => ?_)
      refine q_ald2 dL_law_399 (wz_aload_n dL_law_400 rfl (q_ild3 dL_law_401 (wz_iconst dL_law_402 kiconst_1 (wz_iadd dL_law_403 ?_))))
      obtain ⟨hi71, hS⟩ := hS
      refine wz_tI (v := (eS E ((x3 + 1).toNatClampNeg))) dL_law_404 (by decide) hi71 rfl ?_
      refine wz_virtI (M := ML) (pc := 405) (M' := MX7_notice) (n := 1) (As := [.int (eS E ((x3 + 1).toNatClampNeg))]) (st := [.int r70]) dL_law_405 cf7 rfl go_28 gc_28 rfl cat_i okL_law_X7_notice cwL_43 (Nat.le_of_ble_eq_true rfl) hcs rfl (ls0 := [some (rf 28 0), some (.int (eS E ((x3 + 1).toNatClampNeg)))]) rfl hS (fun r73 h72 hS => ?_)
      refine wz_icmp_eq (tgt := 1195) dL_law_408 rfl (fun c74 => ?_) (fun c74 => ?_)
      · replace hS := hS.1 c74
        refine q_inc3 (v := (x3 + 5)) dL_law_1195 rfl (ltL_law_3) rfl (wz_goto (tgt := 18) dL_law_1198 rfl ?_)
        exact hS
      · replace hS := hS.2 c74
        refine wz_iconst dL_law_411 kiconst_0 ?_
        exact hS
    by_cases q75 : ((eS E (x3.toNatClampNeg)) &&& 31) = (7 : Int32)
    · refine wz_tab1 (tgt := 413) (j := 7) dL_law_32 (by rw [q75]; decide) (by decide) (by decide) rfl rfl ?_
      replace hS := hS.2.2.2.2.2.2.2.1 q75
      refine q_ald1 dL_law_413 (wz_aload_n dL_law_414 rfl (q_ild3 dL_law_415 (wz_iconst dL_law_416 kiconst_1 (wz_iadd dL_law_417 ?_))))
      obtain ⟨hi76, hS⟩ := hS
      refine wz_tI (v := (eS E ((x3 + 1).toNatClampNeg))) dL_law_418 (by decide) hi76 rfl (wz_aload_n dL_law_419 rfl (q_ild3 dL_law_420 (wz_iconst dL_law_421 kiconst_2 (wz_iadd dL_law_422 ?_))))
      obtain ⟨hi77, hS⟩ := hS
      refine wz_tI (v := (eS E ((x3 + 2).toNatClampNeg))) dL_law_423 (by decide) hi77 rfl ?_
      refine wz_virtI (M := ML) (pc := 424) (M' := MX6_pay) (n := 2) (As := [.int (eS E ((x3 + 1).toNatClampNeg)), .int (eS E ((x3 + 2).toNatClampNeg))]) (st := []) dL_law_424 cf6 rfl go_0 gc_0 rfl cat_ii okL_law_X6_pay cwL_44 (Nat.le_of_ble_eq_true rfl) hcs rfl (ls0 := [some (rf 0 0), some (.int (eS E ((x3 + 1).toNatClampNeg))), some (.int (eS E ((x3 + 2).toNatClampNeg))), none]) rfl hS (fun r79 h78 hS => ?_)
      refine q_ald2 dL_law_427 (wz_aload_n dL_law_428 rfl (q_ild3 dL_law_429 (wz_iconst dL_law_430 kiconst_1 (wz_iadd dL_law_431 ?_))))
      obtain ⟨hi80, hS⟩ := hS
      refine wz_tI (v := (eS E ((x3 + 1).toNatClampNeg))) dL_law_432 (by decide) hi80 rfl (wz_aload_n dL_law_433 rfl (q_ild3 dL_law_434 (wz_iconst dL_law_435 kiconst_2 (wz_iadd dL_law_436 ?_))))
      obtain ⟨hi81, hS⟩ := hS
      refine wz_tI (v := (eS E ((x3 + 2).toNatClampNeg))) dL_law_437 (by decide) hi81 rfl ?_
      refine wz_virtI (M := ML) (pc := 438) (M' := MX7_pay) (n := 2) (As := [.int (eS E ((x3 + 1).toNatClampNeg)), .int (eS E ((x3 + 2).toNatClampNeg))]) (st := [.int r79]) dL_law_438 cf7 rfl go_28 gc_28 rfl cat_ii okL_law_X7_pay cwL_47 (Nat.le_of_ble_eq_true rfl) hcs rfl (ls0 := [some (rf 28 0), some (.int (eS E ((x3 + 1).toNatClampNeg))), some (.int (eS E ((x3 + 2).toNatClampNeg)))]) rfl hS (fun r83 h82 hS => ?_)
      refine wz_icmp_eq (tgt := 1195) dL_law_441 rfl (fun c84 => ?_) (fun c84 => ?_)
      · replace hS := hS.1 c84
        refine q_inc3 (v := (x3 + 5)) dL_law_1195 rfl (ltL_law_3) rfl (wz_goto (tgt := 18) dL_law_1198 rfl ?_)
        exact hS
      · replace hS := hS.2 c84
        refine wz_iconst dL_law_444 kiconst_0 ?_
        exact hS
    by_cases q85 : ((eS E (x3.toNatClampNeg)) &&& 31) = (8 : Int32)
    · refine wz_tab1 (tgt := 446) (j := 8) dL_law_32 (by rw [q85]; decide) (by decide) (by decide) rfl rfl ?_
      replace hS := hS.2.2.2.2.2.2.2.2.1 q85
      refine q_ald1 dL_law_446 (wz_aload_n dL_law_447 rfl (q_ild3 dL_law_448 (wz_iconst dL_law_449 kiconst_1 (wz_iadd dL_law_450 ?_))))
      obtain ⟨hi86, hS⟩ := hS
      refine wz_tI (v := (eS E ((x3 + 1).toNatClampNeg))) dL_law_451 (by decide) hi86 rfl (wz_aload_n dL_law_452 rfl (q_ild3 dL_law_453 (wz_iconst dL_law_454 kiconst_2 (wz_iadd dL_law_455 ?_))))
      obtain ⟨hi87, hS⟩ := hS
      refine wz_tI (v := (eS E ((x3 + 2).toNatClampNeg))) dL_law_456 (by decide) hi87 rfl (wz_aload_n dL_law_457 rfl (q_ild3 dL_law_458 (wz_iconst dL_law_459 kiconst_3 (wz_iadd dL_law_460 ?_))))
      obtain ⟨hi88, hS⟩ := hS
      refine wz_tI (v := (eS E ((x3 + 3).toNatClampNeg))) dL_law_461 (by decide) hi88 rfl ?_
      refine wz_virtI (M := ML) (pc := 462) (M' := MX6_waive) (n := 3) (As := [.int (eS E ((x3 + 1).toNatClampNeg)), .int (eS E ((x3 + 2).toNatClampNeg)), .int (eS E ((x3 + 3).toNatClampNeg))]) (st := []) dL_law_462 cf6 rfl go_0 gc_0 rfl cat_iii okL_law_X6_waive cwL_48 (Nat.le_of_ble_eq_true rfl) hcs rfl (ls0 := [some (rf 0 0), some (.int (eS E ((x3 + 1).toNatClampNeg))), some (.int (eS E ((x3 + 2).toNatClampNeg))), some (.int (eS E ((x3 + 3).toNatClampNeg)))]) rfl hS (fun r90 h89 hS => ?_)
      refine q_ald2 dL_law_465 (wz_aload_n dL_law_466 rfl (q_ild3 dL_law_467 (wz_iconst dL_law_468 kiconst_1 (wz_iadd dL_law_469 ?_))))
      obtain ⟨hi91, hS⟩ := hS
      refine wz_tI (v := (eS E ((x3 + 1).toNatClampNeg))) dL_law_470 (by decide) hi91 rfl (wz_aload_n dL_law_471 rfl (q_ild3 dL_law_472 (wz_iconst dL_law_473 kiconst_2 (wz_iadd dL_law_474 ?_))))
      obtain ⟨hi92, hS⟩ := hS
      refine wz_tI (v := (eS E ((x3 + 2).toNatClampNeg))) dL_law_475 (by decide) hi92 rfl (wz_aload_n dL_law_476 rfl (q_ild3 dL_law_477 (wz_iconst dL_law_478 kiconst_3 (wz_iadd dL_law_479 ?_))))
      obtain ⟨hi93, hS⟩ := hS
      refine wz_tI (v := (eS E ((x3 + 3).toNatClampNeg))) dL_law_480 (by decide) hi93 rfl ?_
      refine wz_virtI (M := ML) (pc := 481) (M' := MX7_waive) (n := 3) (As := [.int (eS E ((x3 + 1).toNatClampNeg)), .int (eS E ((x3 + 2).toNatClampNeg)), .int (eS E ((x3 + 3).toNatClampNeg))]) (st := [.int r90]) dL_law_481 cf7 rfl go_28 gc_28 rfl cat_iii okL_law_X7_waive cwL_51 (Nat.le_of_ble_eq_true rfl) hcs rfl (ls0 := [some (rf 28 0), some (.int (eS E ((x3 + 1).toNatClampNeg))), some (.int (eS E ((x3 + 2).toNatClampNeg))), some (.int (eS E ((x3 + 3).toNatClampNeg)))]) rfl hS (fun r95 h94 hS => ?_)
      refine wz_icmp_eq (tgt := 1195) dL_law_484 rfl (fun c96 => ?_) (fun c96 => ?_)
      · replace hS := hS.1 c96
        refine q_inc3 (v := (x3 + 5)) dL_law_1195 rfl (ltL_law_3) rfl (wz_goto (tgt := 18) dL_law_1198 rfl ?_)
        exact hS
      · replace hS := hS.2 c96
        refine wz_iconst dL_law_487 kiconst_0 ?_
        exact hS
    by_cases q97 : ((eS E (x3.toNatClampNeg)) &&& 31) = (9 : Int32)
    · refine wz_tab1 (tgt := 489) (j := 9) dL_law_32 (by rw [q97]; decide) (by decide) (by decide) rfl rfl ?_
      replace hS := hS.2.2.2.2.2.2.2.2.2.1 q97
      refine q_ald1 dL_law_489 (wz_aload_n dL_law_490 rfl (q_ild3 dL_law_491 (wz_iconst dL_law_492 kiconst_1 (wz_iadd dL_law_493 ?_))))
      obtain ⟨hi98, hS⟩ := hS
      refine wz_tI (v := (eS E ((x3 + 1).toNatClampNeg))) dL_law_494 (by decide) hi98 rfl (wz_aload_n dL_law_495 rfl (q_ild3 dL_law_496 (wz_iconst dL_law_497 kiconst_2 (wz_iadd dL_law_498 ?_))))
      obtain ⟨hi99, hS⟩ := hS
      refine wz_tI (v := (eS E ((x3 + 2).toNatClampNeg))) dL_law_499 (by decide) hi99 rfl ?_
      refine wz_virtI (M := ML) (pc := 500) (M' := MX6_of) (n := 2) (As := [.int (eS E ((x3 + 1).toNatClampNeg)), .int (eS E ((x3 + 2).toNatClampNeg))]) (st := []) dL_law_500 cf6 rfl go_0 gc_0 rfl cat_ii okL_law_X6_of cwL_52 (Nat.le_of_ble_eq_true rfl) hcs rfl (ls0 := [some (rf 0 0), some (.int (eS E ((x3 + 1).toNatClampNeg))), some (.int (eS E ((x3 + 2).toNatClampNeg)))]) rfl hS (fun r101 h100 hS => ?_)
      refine q_ald2 dL_law_503 (wz_aload_n dL_law_504 rfl (q_ild3 dL_law_505 (wz_iconst dL_law_506 kiconst_1 (wz_iadd dL_law_507 ?_))))
      obtain ⟨hi102, hS⟩ := hS
      refine wz_tI (v := (eS E ((x3 + 1).toNatClampNeg))) dL_law_508 (by decide) hi102 rfl (wz_aload_n dL_law_509 rfl (q_ild3 dL_law_510 (wz_iconst dL_law_511 kiconst_2 (wz_iadd dL_law_512 ?_))))
      obtain ⟨hi103, hS⟩ := hS
      refine wz_tI (v := (eS E ((x3 + 2).toNatClampNeg))) dL_law_513 (by decide) hi103 rfl ?_
      refine wz_virtI (M := ML) (pc := 514) (M' := MX7_of) (n := 2) (As := [.int (eS E ((x3 + 1).toNatClampNeg)), .int (eS E ((x3 + 2).toNatClampNeg))]) (st := [.int r101]) dL_law_514 cf7 rfl go_28 gc_28 rfl cat_ii okL_law_X7_of cwL_55 (Nat.le_of_ble_eq_true rfl) hcs rfl (ls0 := [some (rf 28 0), some (.int (eS E ((x3 + 1).toNatClampNeg))), some (.int (eS E ((x3 + 2).toNatClampNeg)))]) rfl hS (fun r105 h104 hS => ?_)
      refine wz_icmp_eq (tgt := 1195) dL_law_517 rfl (fun c106 => ?_) (fun c106 => ?_)
      · replace hS := hS.1 c106
        refine q_inc3 (v := (x3 + 5)) dL_law_1195 rfl (ltL_law_3) rfl (wz_goto (tgt := 18) dL_law_1198 rfl ?_)
        exact hS
      · replace hS := hS.2 c106
        refine wz_iconst dL_law_520 kiconst_0 ?_
        exact hS
    by_cases q107 : ((eS E (x3.toNatClampNeg)) &&& 31) = (10 : Int32)
    · refine wz_tab1 (tgt := 522) (j := 10) dL_law_32 (by rw [q107]; decide) (by decide) (by decide) rfl rfl ?_
      replace hS := hS.2.2.2.2.2.2.2.2.2.2.1 q107
      refine q_ald1 dL_law_522 (wz_aload_n dL_law_523 rfl (q_ild3 dL_law_524 (wz_iconst dL_law_525 kiconst_1 (wz_iadd dL_law_526 ?_))))
      obtain ⟨hi108, hS⟩ := hS
      refine wz_tI (v := (eS E ((x3 + 1).toNatClampNeg))) dL_law_527 (by decide) hi108 rfl ?_
      refine wz_virtI (M := ML) (pc := 528) (M' := MX6_day) (n := 1) (As := [.int (eS E ((x3 + 1).toNatClampNeg))]) (st := []) dL_law_528 cf6 rfl go_0 gc_0 rfl cat_i okL_law_X6_day cwL_56 (Nat.le_of_ble_eq_true rfl) hcs rfl (ls0 := [some (rf 0 0), some (.int (eS E ((x3 + 1).toNatClampNeg))), none]) rfl hS (fun r110 h109 hS => ?_)
      refine q_ald2 dL_law_531 (wz_aload_n dL_law_532 rfl (q_ild3 dL_law_533 (wz_iconst dL_law_534 kiconst_1 (wz_iadd dL_law_535 ?_))))
      obtain ⟨hi111, hS⟩ := hS
      refine wz_tI (v := (eS E ((x3 + 1).toNatClampNeg))) dL_law_536 (by decide) hi111 rfl ?_
      refine wz_virtI (M := ML) (pc := 537) (M' := MX7_day) (n := 1) (As := [.int (eS E ((x3 + 1).toNatClampNeg))]) (st := [.int r110]) dL_law_537 cf7 rfl go_28 gc_28 rfl cat_i okL_law_X7_day cwL_59 (Nat.le_of_ble_eq_true rfl) hcs rfl (ls0 := [some (rf 28 0), some (.int (eS E ((x3 + 1).toNatClampNeg))), none]) rfl hS (fun r113 h112 hS => ?_)
      refine wz_icmp_eq (tgt := 1195) dL_law_540 rfl (fun c114 => ?_) (fun c114 => ?_)
      · replace hS := hS.1 c114
        refine q_inc3 (v := (x3 + 5)) dL_law_1195 rfl (ltL_law_3) rfl (wz_goto (tgt := 18) dL_law_1198 rfl ?_)
        exact hS
      · replace hS := hS.2 c114
        refine wz_iconst dL_law_543 kiconst_0 ?_
        exact hS
    by_cases q115 : ((eS E (x3.toNatClampNeg)) &&& 31) = (11 : Int32)
    · refine wz_tab1 (tgt := 545) (j := 11) dL_law_32 (by rw [q115]; decide) (by decide) (by decide) rfl rfl ?_
      replace hS := hS.2.2.2.2.2.2.2.2.2.2.2.1 q115
      refine q_ald1 dL_law_545 (wz_aload_n dL_law_546 rfl (q_ild3 dL_law_547 (wz_iconst dL_law_548 kiconst_1 (wz_iadd dL_law_549 ?_))))
      obtain ⟨hi116, hS⟩ := hS
      refine wz_tI (v := (eS E ((x3 + 1).toNatClampNeg))) dL_law_550 (by decide) hi116 rfl (wz_aload_n dL_law_551 rfl (q_ild3 dL_law_552 (wz_iconst dL_law_553 kiconst_2 (wz_iadd dL_law_554 ?_))))
      obtain ⟨hi117, hS⟩ := hS
      refine wz_tI (v := (eS E ((x3 + 2).toNatClampNeg))) dL_law_555 (by decide) hi117 rfl ?_
      refine wz_virtI (M := ML) (pc := 556) (M' := MX6_law) (n := 2) (As := [.int (eS E ((x3 + 1).toNatClampNeg)), .int (eS E ((x3 + 2).toNatClampNeg))]) (st := []) dL_law_556 cf6 rfl go_0 gc_0 rfl cat_ii okL_law_X6_law cwL_60 (Nat.le_of_ble_eq_true rfl) hcs rfl (ls0 := [some (rf 0 0), some (.int (eS E ((x3 + 1).toNatClampNeg))), some (.int (eS E ((x3 + 2).toNatClampNeg))), none]) rfl hS (fun r119 h118 hS => ?_)
      refine q_ald2 dL_law_559 (wz_aload_n dL_law_560 rfl (q_ild3 dL_law_561 (wz_iconst dL_law_562 kiconst_1 (wz_iadd dL_law_563 ?_))))
      obtain ⟨hi120, hS⟩ := hS
      refine wz_tI (v := (eS E ((x3 + 1).toNatClampNeg))) dL_law_564 (by decide) hi120 rfl (wz_aload_n dL_law_565 rfl (q_ild3 dL_law_566 (wz_iconst dL_law_567 kiconst_2 (wz_iadd dL_law_568 ?_))))
      obtain ⟨hi121, hS⟩ := hS
      refine wz_tI (v := (eS E ((x3 + 2).toNatClampNeg))) dL_law_569 (by decide) hi121 rfl ?_
      refine wz_virtI (M := ML) (pc := 570) (M' := MX7_law) (n := 2) (As := [.int (eS E ((x3 + 1).toNatClampNeg)), .int (eS E ((x3 + 2).toNatClampNeg))]) (st := [.int r119]) dL_law_570 cf7 rfl go_28 gc_28 rfl cat_ii okL_law_X7_law cwL_63 (Nat.le_of_ble_eq_true rfl) hcs rfl (ls0 := [some (rf 28 0), some (.int (eS E ((x3 + 1).toNatClampNeg))), some (.int (eS E ((x3 + 2).toNatClampNeg))), none]) rfl hS (fun r123 h122 hS => ?_)
      refine wz_icmp_eq (tgt := 1195) dL_law_573 rfl (fun c124 => ?_) (fun c124 => ?_)
      · replace hS := hS.1 c124
        refine q_inc3 (v := (x3 + 5)) dL_law_1195 rfl (ltL_law_3) rfl (wz_goto (tgt := 18) dL_law_1198 rfl ?_)
        exact hS
      · replace hS := hS.2 c124
        refine wz_iconst dL_law_576 kiconst_0 ?_
        exact hS
    by_cases q125 : ((eS E (x3.toNatClampNeg)) &&& 31) = (12 : Int32)
    · refine wz_tab1 (tgt := 578) (j := 12) dL_law_32 (by rw [q125]; decide) (by decide) (by decide) rfl rfl ?_
      replace hS := hS.2.2.2.2.2.2.2.2.2.2.2.2.1 q125
      refine q_ald1 dL_law_578 (wz_aload_n dL_law_579 rfl (q_ild3 dL_law_580 (wz_iconst dL_law_581 kiconst_1 (wz_iadd dL_law_582 ?_))))
      obtain ⟨hi126, hS⟩ := hS
      refine wz_tI (v := (eS E ((x3 + 1).toNatClampNeg))) dL_law_583 (by decide) hi126 rfl (wz_aload_n dL_law_584 rfl (q_ild3 dL_law_585 (wz_iconst dL_law_586 kiconst_2 (wz_iadd dL_law_587 ?_))))
      obtain ⟨hi127, hS⟩ := hS
      refine wz_tI (v := (eS E ((x3 + 2).toNatClampNeg))) dL_law_588 (by decide) hi127 rfl ?_
      refine wz_virtI (M := ML) (pc := 589) (M' := MX6_file) (n := 2) (As := [.int (eS E ((x3 + 1).toNatClampNeg)), .int (eS E ((x3 + 2).toNatClampNeg))]) (st := []) dL_law_589 cf6 rfl go_0 gc_0 rfl cat_ii okL_law_X6_file cwL_64 (Nat.le_of_ble_eq_true rfl) hcs rfl (ls0 := [some (rf 0 0), some (.int (eS E ((x3 + 1).toNatClampNeg))), some (.int (eS E ((x3 + 2).toNatClampNeg)))]) rfl hS (fun r129 h128 hS => ?_)
      refine q_ald2 dL_law_592 (wz_aload_n dL_law_593 rfl (q_ild3 dL_law_594 (wz_iconst dL_law_595 kiconst_1 (wz_iadd dL_law_596 ?_))))
      obtain ⟨hi130, hS⟩ := hS
      refine wz_tI (v := (eS E ((x3 + 1).toNatClampNeg))) dL_law_597 (by decide) hi130 rfl (wz_aload_n dL_law_598 rfl (q_ild3 dL_law_599 (wz_iconst dL_law_600 kiconst_2 (wz_iadd dL_law_601 ?_))))
      obtain ⟨hi131, hS⟩ := hS
      refine wz_tI (v := (eS E ((x3 + 2).toNatClampNeg))) dL_law_602 (by decide) hi131 rfl ?_
      refine wz_virtI (M := ML) (pc := 603) (M' := MX7_file) (n := 2) (As := [.int (eS E ((x3 + 1).toNatClampNeg)), .int (eS E ((x3 + 2).toNatClampNeg))]) (st := [.int r129]) dL_law_603 cf7 rfl go_28 gc_28 rfl cat_ii okL_law_X7_file cwL_67 (Nat.le_of_ble_eq_true rfl) hcs rfl (ls0 := [some (rf 28 0), some (.int (eS E ((x3 + 1).toNatClampNeg))), some (.int (eS E ((x3 + 2).toNatClampNeg)))]) rfl hS (fun r133 h132 hS => ?_)
      refine wz_icmp_eq (tgt := 1195) dL_law_606 rfl (fun c134 => ?_) (fun c134 => ?_)
      · replace hS := hS.1 c134
        refine q_inc3 (v := (x3 + 5)) dL_law_1195 rfl (ltL_law_3) rfl (wz_goto (tgt := 18) dL_law_1198 rfl ?_)
        exact hS
      · replace hS := hS.2 c134
        refine wz_iconst dL_law_609 kiconst_0 ?_
        exact hS
    by_cases q135 : ((eS E (x3.toNatClampNeg)) &&& 31) = (13 : Int32)
    · refine wz_tab1 (tgt := 611) (j := 13) dL_law_32 (by rw [q135]; decide) (by decide) (by decide) rfl rfl ?_
      replace hS := hS.2.2.2.2.2.2.2.2.2.2.2.2.2.1 q135
      refine q_ald1 dL_law_611 (wz_aload_n dL_law_612 rfl (q_ild3 dL_law_613 (wz_iconst dL_law_614 kiconst_1 (wz_iadd dL_law_615 ?_))))
      obtain ⟨hi136, hS⟩ := hS
      refine wz_tI (v := (eS E ((x3 + 1).toNatClampNeg))) dL_law_616 (by decide) hi136 rfl ?_
      refine wz_virtI (M := ML) (pc := 617) (M' := MX6_sue) (n := 1) (As := [.int (eS E ((x3 + 1).toNatClampNeg))]) (st := []) dL_law_617 cf6 rfl go_0 gc_0 rfl cat_i okL_law_X6_sue cwL_68 (Nat.le_of_ble_eq_true rfl) hcs rfl (ls0 := [some (rf 0 0), some (.int (eS E ((x3 + 1).toNatClampNeg))), none]) rfl hS (fun r138 h137 hS => ?_)
      refine q_ald2 dL_law_620 (wz_aload_n dL_law_621 rfl (q_ild3 dL_law_622 (wz_iconst dL_law_623 kiconst_1 (wz_iadd dL_law_624 ?_))))
      obtain ⟨hi139, hS⟩ := hS
      refine wz_tI (v := (eS E ((x3 + 1).toNatClampNeg))) dL_law_625 (by decide) hi139 rfl ?_
      refine wz_virtI (M := ML) (pc := 626) (M' := MX7_sue) (n := 1) (As := [.int (eS E ((x3 + 1).toNatClampNeg))]) (st := [.int r138]) dL_law_626 cf7 rfl go_28 gc_28 rfl cat_i okL_law_X7_sue cwL_71 (Nat.le_of_ble_eq_true rfl) hcs rfl (ls0 := [some (rf 28 0), some (.int (eS E ((x3 + 1).toNatClampNeg)))]) rfl hS (fun r141 h140 hS => ?_)
      refine wz_icmp_eq (tgt := 1195) dL_law_629 rfl (fun c142 => ?_) (fun c142 => ?_)
      · replace hS := hS.1 c142
        refine q_inc3 (v := (x3 + 5)) dL_law_1195 rfl (ltL_law_3) rfl (wz_goto (tgt := 18) dL_law_1198 rfl ?_)
        exact hS
      · replace hS := hS.2 c142
        refine wz_iconst dL_law_632 kiconst_0 ?_
        exact hS
    by_cases q143 : ((eS E (x3.toNatClampNeg)) &&& 31) = (14 : Int32)
    · refine wz_tab1 (tgt := 634) (j := 14) dL_law_32 (by rw [q143]; decide) (by decide) (by decide) rfl rfl ?_
      replace hS := hS.2.2.2.2.2.2.2.2.2.2.2.2.2.2.1 q143
      refine q_ald1 dL_law_634 (wz_aload_n dL_law_635 rfl (q_ild3 dL_law_636 (wz_iconst dL_law_637 kiconst_1 (wz_iadd dL_law_638 ?_))))
      obtain ⟨hi144, hS⟩ := hS
      refine wz_tI (v := (eS E ((x3 + 1).toNatClampNeg))) dL_law_639 (by decide) hi144 rfl (wz_aload_n dL_law_640 rfl (q_ild3 dL_law_641 (wz_iconst dL_law_642 kiconst_2 (wz_iadd dL_law_643 ?_))))
      obtain ⟨hi145, hS⟩ := hS
      refine wz_tI (v := (eS E ((x3 + 2).toNatClampNeg))) dL_law_644 (by decide) hi145 rfl ?_
      refine wz_virtI (M := ML) (pc := 645) (M' := MX6_bond) (n := 2) (As := [.int (eS E ((x3 + 1).toNatClampNeg)), .int (eS E ((x3 + 2).toNatClampNeg))]) (st := []) dL_law_645 cf6 rfl go_0 gc_0 rfl cat_ii okL_law_X6_bond cwL_72 (Nat.le_of_ble_eq_true rfl) hcs rfl (ls0 := [some (rf 0 0), some (.int (eS E ((x3 + 1).toNatClampNeg))), some (.int (eS E ((x3 + 2).toNatClampNeg))), none, none]) rfl hS (fun r147 h146 hS => ?_)
      refine q_ald2 dL_law_648 (wz_aload_n dL_law_649 rfl (q_ild3 dL_law_650 (wz_iconst dL_law_651 kiconst_1 (wz_iadd dL_law_652 ?_))))
      obtain ⟨hi148, hS⟩ := hS
      refine wz_tI (v := (eS E ((x3 + 1).toNatClampNeg))) dL_law_653 (by decide) hi148 rfl (wz_aload_n dL_law_654 rfl (q_ild3 dL_law_655 (wz_iconst dL_law_656 kiconst_2 (wz_iadd dL_law_657 ?_))))
      obtain ⟨hi149, hS⟩ := hS
      refine wz_tI (v := (eS E ((x3 + 2).toNatClampNeg))) dL_law_658 (by decide) hi149 rfl ?_
      refine wz_virtI (M := ML) (pc := 659) (M' := MX7_bond) (n := 2) (As := [.int (eS E ((x3 + 1).toNatClampNeg)), .int (eS E ((x3 + 2).toNatClampNeg))]) (st := [.int r147]) dL_law_659 cf7 rfl go_28 gc_28 rfl cat_ii okL_law_X7_bond cwL_75 (Nat.le_of_ble_eq_true rfl) hcs rfl (ls0 := [some (rf 28 0), some (.int (eS E ((x3 + 1).toNatClampNeg))), some (.int (eS E ((x3 + 2).toNatClampNeg))), none]) rfl hS (fun r151 h150 hS => ?_)
      refine wz_icmp_eq (tgt := 1195) dL_law_662 rfl (fun c152 => ?_) (fun c152 => ?_)
      · replace hS := hS.1 c152
        refine q_inc3 (v := (x3 + 5)) dL_law_1195 rfl (ltL_law_3) rfl (wz_goto (tgt := 18) dL_law_1198 rfl ?_)
        exact hS
      · replace hS := hS.2 c152
        refine wz_iconst dL_law_665 kiconst_0 ?_
        exact hS
    by_cases q153 : ((eS E (x3.toNatClampNeg)) &&& 31) = (15 : Int32)
    · refine wz_tab1 (tgt := 667) (j := 15) dL_law_32 (by rw [q153]; decide) (by decide) (by decide) rfl rfl ?_
      replace hS := hS.2.2.2.2.2.2.2.2.2.2.2.2.2.2.2.1 q153
      refine q_ald1 dL_law_667 (wz_aload_n dL_law_668 rfl (q_ild3 dL_law_669 (wz_iconst dL_law_670 kiconst_1 (wz_iadd dL_law_671 ?_))))
      obtain ⟨hi154, hS⟩ := hS
      refine wz_tI (v := (eS E ((x3 + 1).toNatClampNeg))) dL_law_672 (by decide) hi154 rfl (wz_aload_n dL_law_673 rfl (q_ild3 dL_law_674 (wz_iconst dL_law_675 kiconst_2 (wz_iadd dL_law_676 ?_))))
      obtain ⟨hi155, hS⟩ := hS
      refine wz_tI (v := (eS E ((x3 + 2).toNatClampNeg))) dL_law_677 (by decide) hi155 rfl ?_
      refine wz_virtI (M := ML) (pc := 678) (M' := MX6_judge) (n := 2) (As := [.int (eS E ((x3 + 1).toNatClampNeg)), .int (eS E ((x3 + 2).toNatClampNeg))]) (st := []) dL_law_678 cf6 rfl go_0 gc_0 rfl cat_ii okL_law_X6_judge cwL_76 (Nat.le_of_ble_eq_true rfl) hcs rfl (ls0 := [some (rf 0 0), some (.int (eS E ((x3 + 1).toNatClampNeg))), some (.int (eS E ((x3 + 2).toNatClampNeg)))]) rfl hS (fun r157 h156 hS => ?_)
      refine q_ald2 dL_law_681 (wz_aload_n dL_law_682 rfl (q_ild3 dL_law_683 (wz_iconst dL_law_684 kiconst_1 (wz_iadd dL_law_685 ?_))))
      obtain ⟨hi158, hS⟩ := hS
      refine wz_tI (v := (eS E ((x3 + 1).toNatClampNeg))) dL_law_686 (by decide) hi158 rfl (wz_aload_n dL_law_687 rfl (q_ild3 dL_law_688 (wz_iconst dL_law_689 kiconst_2 (wz_iadd dL_law_690 ?_))))
      obtain ⟨hi159, hS⟩ := hS
      refine wz_tI (v := (eS E ((x3 + 2).toNatClampNeg))) dL_law_691 (by decide) hi159 rfl ?_
      refine wz_virtI (M := ML) (pc := 692) (M' := MX7_judge) (n := 2) (As := [.int (eS E ((x3 + 1).toNatClampNeg)), .int (eS E ((x3 + 2).toNatClampNeg))]) (st := [.int r157]) dL_law_692 cf7 rfl go_28 gc_28 rfl cat_ii okL_law_X7_judge cwL_79 (Nat.le_of_ble_eq_true rfl) hcs rfl (ls0 := [some (rf 28 0), some (.int (eS E ((x3 + 1).toNatClampNeg))), some (.int (eS E ((x3 + 2).toNatClampNeg)))]) rfl hS (fun r161 h160 hS => ?_)
      refine wz_icmp_eq (tgt := 1195) dL_law_695 rfl (fun c162 => ?_) (fun c162 => ?_)
      · replace hS := hS.1 c162
        refine q_inc3 (v := (x3 + 5)) dL_law_1195 rfl (ltL_law_3) rfl (wz_goto (tgt := 18) dL_law_1198 rfl ?_)
        exact hS
      · replace hS := hS.2 c162
        refine wz_iconst dL_law_698 kiconst_0 ?_
        exact hS
    by_cases q163 : ((eS E (x3.toNatClampNeg)) &&& 31) = (16 : Int32)
    · refine wz_tab1 (tgt := 700) (j := 16) dL_law_32 (by rw [q163]; decide) (by decide) (by decide) rfl rfl ?_
      replace hS := hS.2.2.2.2.2.2.2.2.2.2.2.2.2.2.2.2.1 q163
      refine q_ald1 dL_law_700 (wz_aload_n dL_law_701 rfl (q_ild3 dL_law_702 (wz_iconst dL_law_703 kiconst_1 (wz_iadd dL_law_704 ?_))))
      obtain ⟨hi164, hS⟩ := hS
      refine wz_tI (v := (eS E ((x3 + 1).toNatClampNeg))) dL_law_705 (by decide) hi164 rfl (wz_aload_n dL_law_706 rfl (q_ild3 dL_law_707 (wz_iconst dL_law_708 kiconst_2 (wz_iadd dL_law_709 ?_))))
      obtain ⟨hi165, hS⟩ := hS
      refine wz_tI (v := (eS E ((x3 + 2).toNatClampNeg))) dL_law_710 (by decide) hi165 rfl ?_
      refine wz_virtI (M := ML) (pc := 711) (M' := MX6_bar) (n := 2) (As := [.int (eS E ((x3 + 1).toNatClampNeg)), .int (eS E ((x3 + 2).toNatClampNeg))]) (st := []) dL_law_711 cf6 rfl go_0 gc_0 rfl cat_ii okL_law_X6_bar cwL_80 (Nat.le_of_ble_eq_true rfl) hcs rfl (ls0 := [some (rf 0 0), some (.int (eS E ((x3 + 1).toNatClampNeg))), some (.int (eS E ((x3 + 2).toNatClampNeg)))]) rfl hS (fun r167 h166 hS => ?_)
      refine q_ald2 dL_law_714 (wz_aload_n dL_law_715 rfl (q_ild3 dL_law_716 (wz_iconst dL_law_717 kiconst_1 (wz_iadd dL_law_718 ?_))))
      obtain ⟨hi168, hS⟩ := hS
      refine wz_tI (v := (eS E ((x3 + 1).toNatClampNeg))) dL_law_719 (by decide) hi168 rfl (wz_aload_n dL_law_720 rfl (q_ild3 dL_law_721 (wz_iconst dL_law_722 kiconst_2 (wz_iadd dL_law_723 ?_))))
      obtain ⟨hi169, hS⟩ := hS
      refine wz_tI (v := (eS E ((x3 + 2).toNatClampNeg))) dL_law_724 (by decide) hi169 rfl ?_
      refine wz_virtI (M := ML) (pc := 725) (M' := MX7_bar) (n := 2) (As := [.int (eS E ((x3 + 1).toNatClampNeg)), .int (eS E ((x3 + 2).toNatClampNeg))]) (st := [.int r167]) dL_law_725 cf7 rfl go_28 gc_28 rfl cat_ii okL_law_X7_bar cwL_83 (Nat.le_of_ble_eq_true rfl) hcs rfl (ls0 := [some (rf 28 0), some (.int (eS E ((x3 + 1).toNatClampNeg))), some (.int (eS E ((x3 + 2).toNatClampNeg))), none, none]) rfl hS (fun r171 h170 hS => ?_)
      refine wz_icmp_eq (tgt := 1195) dL_law_728 rfl (fun c172 => ?_) (fun c172 => ?_)
      · replace hS := hS.1 c172
        refine q_inc3 (v := (x3 + 5)) dL_law_1195 rfl (ltL_law_3) rfl (wz_goto (tgt := 18) dL_law_1198 rfl ?_)
        exact hS
      · replace hS := hS.2 c172
        refine wz_iconst dL_law_731 kiconst_0 ?_
        exact hS
    by_cases q173 : ((eS E (x3.toNatClampNeg)) &&& 31) = (17 : Int32)
    · refine wz_tab1 (tgt := 733) (j := 17) dL_law_32 (by rw [q173]; decide) (by decide) (by decide) rfl rfl ?_
      replace hS := hS.2.2.2.2.2.2.2.2.2.2.2.2.2.2.2.2.2.1 q173
      refine q_ald1 dL_law_733 (wz_aload_n dL_law_734 rfl (q_ild3 dL_law_735 (wz_iconst dL_law_736 kiconst_1 (wz_iadd dL_law_737 ?_))))
      obtain ⟨hi174, hS⟩ := hS
      refine wz_tI (v := (eS E ((x3 + 1).toNatClampNeg))) dL_law_738 (by decide) hi174 rfl (wz_aload_n dL_law_739 rfl (q_ild3 dL_law_740 (wz_iconst dL_law_741 kiconst_2 (wz_iadd dL_law_742 ?_))))
      obtain ⟨hi175, hS⟩ := hS
      refine wz_tI (v := (eS E ((x3 + 2).toNatClampNeg))) dL_law_743 (by decide) hi175 rfl ?_
      refine wz_virtI (M := ML) (pc := 744) (M' := MX6_worth) (n := 2) (As := [.int (eS E ((x3 + 1).toNatClampNeg)), .int (eS E ((x3 + 2).toNatClampNeg))]) (st := []) dL_law_744 cf6 rfl go_0 gc_0 rfl cat_ii okL_law_X6_worth cwL_84 (Nat.le_of_ble_eq_true rfl) hcs rfl (ls0 := [some (rf 0 0), some (.int (eS E ((x3 + 1).toNatClampNeg))), some (.int (eS E ((x3 + 2).toNatClampNeg)))]) rfl hS (fun r177 h176 hS => ?_)
      refine q_ald2 dL_law_747 (wz_aload_n dL_law_748 rfl (q_ild3 dL_law_749 (wz_iconst dL_law_750 kiconst_1 (wz_iadd dL_law_751 ?_))))
      obtain ⟨hi178, hS⟩ := hS
      refine wz_tI (v := (eS E ((x3 + 1).toNatClampNeg))) dL_law_752 (by decide) hi178 rfl (wz_aload_n dL_law_753 rfl (q_ild3 dL_law_754 (wz_iconst dL_law_755 kiconst_2 (wz_iadd dL_law_756 ?_))))
      obtain ⟨hi179, hS⟩ := hS
      refine wz_tI (v := (eS E ((x3 + 2).toNatClampNeg))) dL_law_757 (by decide) hi179 rfl ?_
      refine wz_virtI (M := ML) (pc := 758) (M' := MX7_worth) (n := 2) (As := [.int (eS E ((x3 + 1).toNatClampNeg)), .int (eS E ((x3 + 2).toNatClampNeg))]) (st := [.int r177]) dL_law_758 cf7 rfl go_28 gc_28 rfl cat_ii okL_law_X7_worth cwL_87 (Nat.le_of_ble_eq_true rfl) hcs rfl (ls0 := [some (rf 28 0), some (.int (eS E ((x3 + 1).toNatClampNeg))), some (.int (eS E ((x3 + 2).toNatClampNeg)))]) rfl hS (fun r181 h180 hS => ?_)
      refine wz_icmp_eq (tgt := 1195) dL_law_761 rfl (fun c182 => ?_) (fun c182 => ?_)
      · replace hS := hS.1 c182
        refine q_inc3 (v := (x3 + 5)) dL_law_1195 rfl (ltL_law_3) rfl (wz_goto (tgt := 18) dL_law_1198 rfl ?_)
        exact hS
      · replace hS := hS.2 c182
        refine wz_iconst dL_law_764 kiconst_0 ?_
        exact hS
    by_cases q183 : ((eS E (x3.toNatClampNeg)) &&& 31) = (18 : Int32)
    · refine wz_tab1 (tgt := 766) (j := 18) dL_law_32 (by rw [q183]; decide) (by decide) (by decide) rfl rfl ?_
      replace hS := hS.2.2.2.2.2.2.2.2.2.2.2.2.2.2.2.2.2.2.1 q183
      refine q_ald1 dL_law_766 (wz_aload_n dL_law_767 rfl (q_ild3 dL_law_768 (wz_iconst dL_law_769 kiconst_1 (wz_iadd dL_law_770 ?_))))
      obtain ⟨hi184, hS⟩ := hS
      refine wz_tI (v := (eS E ((x3 + 1).toNatClampNeg))) dL_law_771 (by decide) hi184 rfl (wz_aload_n dL_law_772 rfl (q_ild3 dL_law_773 (wz_iconst dL_law_774 kiconst_2 (wz_iadd dL_law_775 ?_))))
      obtain ⟨hi185, hS⟩ := hS
      refine wz_tI (v := (eS E ((x3 + 2).toNatClampNeg))) dL_law_776 (by decide) hi185 rfl ?_
      refine wz_virtI (M := ML) (pc := 777) (M' := MX6_rank) (n := 2) (As := [.int (eS E ((x3 + 1).toNatClampNeg)), .int (eS E ((x3 + 2).toNatClampNeg))]) (st := []) dL_law_777 cf6 rfl go_0 gc_0 rfl cat_ii okL_law_X6_rank cwL_88 (Nat.le_of_ble_eq_true rfl) hcs rfl (ls0 := [some (rf 0 0), some (.int (eS E ((x3 + 1).toNatClampNeg))), some (.int (eS E ((x3 + 2).toNatClampNeg)))]) rfl hS (fun r187 h186 hS => ?_)
      refine q_ald2 dL_law_780 (wz_aload_n dL_law_781 rfl (q_ild3 dL_law_782 (wz_iconst dL_law_783 kiconst_1 (wz_iadd dL_law_784 ?_))))
      obtain ⟨hi188, hS⟩ := hS
      refine wz_tI (v := (eS E ((x3 + 1).toNatClampNeg))) dL_law_785 (by decide) hi188 rfl (wz_aload_n dL_law_786 rfl (q_ild3 dL_law_787 (wz_iconst dL_law_788 kiconst_2 (wz_iadd dL_law_789 ?_))))
      obtain ⟨hi189, hS⟩ := hS
      refine wz_tI (v := (eS E ((x3 + 2).toNatClampNeg))) dL_law_790 (by decide) hi189 rfl ?_
      refine wz_virtI (M := ML) (pc := 791) (M' := MX7_rank) (n := 2) (As := [.int (eS E ((x3 + 1).toNatClampNeg)), .int (eS E ((x3 + 2).toNatClampNeg))]) (st := [.int r187]) dL_law_791 cf7 rfl go_28 gc_28 rfl cat_ii okL_law_X7_rank cwL_91 (Nat.le_of_ble_eq_true rfl) hcs rfl (ls0 := [some (rf 28 0), some (.int (eS E ((x3 + 1).toNatClampNeg))), some (.int (eS E ((x3 + 2).toNatClampNeg)))]) rfl hS (fun r191 h190 hS => ?_)
      refine wz_icmp_eq (tgt := 1195) dL_law_794 rfl (fun c192 => ?_) (fun c192 => ?_)
      · replace hS := hS.1 c192
        refine q_inc3 (v := (x3 + 5)) dL_law_1195 rfl (ltL_law_3) rfl (wz_goto (tgt := 18) dL_law_1198 rfl ?_)
        exact hS
      · replace hS := hS.2 c192
        refine wz_iconst dL_law_797 kiconst_0 ?_
        exact hS
    by_cases q193 : ((eS E (x3.toNatClampNeg)) &&& 31) = (19 : Int32)
    · refine wz_tab1 (tgt := 799) (j := 19) dL_law_32 (by rw [q193]; decide) (by decide) (by decide) rfl rfl ?_
      replace hS := hS.2.2.2.2.2.2.2.2.2.2.2.2.2.2.2.2.2.2.2.1 q193
      refine q_ald1 dL_law_799 (wz_aload_n dL_law_800 rfl (q_ild3 dL_law_801 (wz_iconst dL_law_802 kiconst_1 (wz_iadd dL_law_803 ?_))))
      obtain ⟨hi194, hS⟩ := hS
      refine wz_tI (v := (eS E ((x3 + 1).toNatClampNeg))) dL_law_804 (by decide) hi194 rfl (wz_aload_n dL_law_805 rfl (q_ild3 dL_law_806 (wz_iconst dL_law_807 kiconst_2 (wz_iadd dL_law_808 ?_))))
      obtain ⟨hi195, hS⟩ := hS
      refine wz_tI (v := (eS E ((x3 + 2).toNatClampNeg))) dL_law_809 (by decide) hi195 rfl ?_
      refine wz_virtI (M := ML) (pc := 810) (M' := MX6_loan) (n := 2) (As := [.int (eS E ((x3 + 1).toNatClampNeg)), .int (eS E ((x3 + 2).toNatClampNeg))]) (st := []) dL_law_810 cf6 rfl go_0 gc_0 rfl cat_ii okL_law_X6_loan cwL_92 (Nat.le_of_ble_eq_true rfl) hcs rfl (ls0 := [some (rf 0 0), some (.int (eS E ((x3 + 1).toNatClampNeg))), some (.int (eS E ((x3 + 2).toNatClampNeg)))]) rfl hS (fun r197 h196 hS => ?_)
      refine q_ald2 dL_law_813 (wz_aload_n dL_law_814 rfl (q_ild3 dL_law_815 (wz_iconst dL_law_816 kiconst_1 (wz_iadd dL_law_817 ?_))))
      obtain ⟨hi198, hS⟩ := hS
      refine wz_tI (v := (eS E ((x3 + 1).toNatClampNeg))) dL_law_818 (by decide) hi198 rfl (wz_aload_n dL_law_819 rfl (q_ild3 dL_law_820 (wz_iconst dL_law_821 kiconst_2 (wz_iadd dL_law_822 ?_))))
      obtain ⟨hi199, hS⟩ := hS
      refine wz_tI (v := (eS E ((x3 + 2).toNatClampNeg))) dL_law_823 (by decide) hi199 rfl ?_
      refine wz_virtI (M := ML) (pc := 824) (M' := MX7_loan) (n := 2) (As := [.int (eS E ((x3 + 1).toNatClampNeg)), .int (eS E ((x3 + 2).toNatClampNeg))]) (st := [.int r197]) dL_law_824 cf7 rfl go_28 gc_28 rfl cat_ii okL_law_X7_loan cwL_95 (Nat.le_of_ble_eq_true rfl) hcs rfl (ls0 := [some (rf 28 0), some (.int (eS E ((x3 + 1).toNatClampNeg))), some (.int (eS E ((x3 + 2).toNatClampNeg)))]) rfl hS (fun r201 h200 hS => ?_)
      refine wz_icmp_eq (tgt := 1195) dL_law_827 rfl (fun c202 => ?_) (fun c202 => ?_)
      · replace hS := hS.1 c202
        refine q_inc3 (v := (x3 + 5)) dL_law_1195 rfl (ltL_law_3) rfl (wz_goto (tgt := 18) dL_law_1198 rfl ?_)
        exact hS
      · replace hS := hS.2 c202
        refine wz_iconst dL_law_830 kiconst_0 ?_
        exact hS
    by_cases q203 : ((eS E (x3.toNatClampNeg)) &&& 31) = (20 : Int32)
    · refine wz_tab1 (tgt := 832) (j := 20) dL_law_32 (by rw [q203]; decide) (by decide) (by decide) rfl rfl ?_
      replace hS := hS.2.2.2.2.2.2.2.2.2.2.2.2.2.2.2.2.2.2.2.2.1 q203
      refine q_ald1 dL_law_832 (wz_aload_n dL_law_833 rfl (q_ild3 dL_law_834 (wz_iconst dL_law_835 kiconst_1 (wz_iadd dL_law_836 ?_))))
      obtain ⟨hi204, hS⟩ := hS
      refine wz_tI (v := (eS E ((x3 + 1).toNatClampNeg))) dL_law_837 (by decide) hi204 rfl (wz_aload_n dL_law_838 rfl (q_ild3 dL_law_839 (wz_iconst dL_law_840 kiconst_2 (wz_iadd dL_law_841 ?_))))
      obtain ⟨hi205, hS⟩ := hS
      refine wz_tI (v := (eS E ((x3 + 2).toNatClampNeg))) dL_law_842 (by decide) hi205 rfl (wz_aload_n dL_law_843 rfl (q_ild3 dL_law_844 (wz_iconst dL_law_845 kiconst_3 (wz_iadd dL_law_846 ?_))))
      obtain ⟨hi206, hS⟩ := hS
      refine wz_tI (v := (eS E ((x3 + 3).toNatClampNeg))) dL_law_847 (by decide) hi206 rfl (wz_aload_n dL_law_848 rfl (q_ild3 dL_law_849 (wz_iconst dL_law_850 kiconst_4 (wz_iadd dL_law_851 ?_))))
      obtain ⟨hi207, hS⟩ := hS
      refine wz_tI (v := (eS E ((x3 + 4).toNatClampNeg))) dL_law_852 (by decide) hi207 rfl ?_
      refine wz_virtI (M := ML) (pc := 853) (M' := MX6_sale) (n := 4) (As := [.int (eS E ((x3 + 1).toNatClampNeg)), .int (eS E ((x3 + 2).toNatClampNeg)), .int (eS E ((x3 + 3).toNatClampNeg)), .int (eS E ((x3 + 4).toNatClampNeg))]) (st := []) dL_law_853 cf6 rfl go_0 gc_0 rfl cat_iiii okL_law_X6_sale cwL_96 (Nat.le_of_ble_eq_true rfl) hcs rfl (ls0 := [some (rf 0 0), some (.int (eS E ((x3 + 1).toNatClampNeg))), some (.int (eS E ((x3 + 2).toNatClampNeg))), some (.int (eS E ((x3 + 3).toNatClampNeg))), some (.int (eS E ((x3 + 4).toNatClampNeg)))]) rfl hS (fun r209 h208 hS => ?_)
      refine q_ald2 dL_law_856 (wz_aload_n dL_law_857 rfl (q_ild3 dL_law_858 (wz_iconst dL_law_859 kiconst_1 (wz_iadd dL_law_860 ?_))))
      obtain ⟨hi210, hS⟩ := hS
      refine wz_tI (v := (eS E ((x3 + 1).toNatClampNeg))) dL_law_861 (by decide) hi210 rfl (wz_aload_n dL_law_862 rfl (q_ild3 dL_law_863 (wz_iconst dL_law_864 kiconst_2 (wz_iadd dL_law_865 ?_))))
      obtain ⟨hi211, hS⟩ := hS
      refine wz_tI (v := (eS E ((x3 + 2).toNatClampNeg))) dL_law_866 (by decide) hi211 rfl (wz_aload_n dL_law_867 rfl (q_ild3 dL_law_868 (wz_iconst dL_law_869 kiconst_3 (wz_iadd dL_law_870 ?_))))
      obtain ⟨hi212, hS⟩ := hS
      refine wz_tI (v := (eS E ((x3 + 3).toNatClampNeg))) dL_law_871 (by decide) hi212 rfl (wz_aload_n dL_law_872 rfl (q_ild3 dL_law_873 (wz_iconst dL_law_874 kiconst_4 (wz_iadd dL_law_875 ?_))))
      obtain ⟨hi213, hS⟩ := hS
      refine wz_tI (v := (eS E ((x3 + 4).toNatClampNeg))) dL_law_876 (by decide) hi213 rfl ?_
      refine wz_virtI (M := ML) (pc := 877) (M' := MX7_sale) (n := 4) (As := [.int (eS E ((x3 + 1).toNatClampNeg)), .int (eS E ((x3 + 2).toNatClampNeg)), .int (eS E ((x3 + 3).toNatClampNeg)), .int (eS E ((x3 + 4).toNatClampNeg))]) (st := [.int r209]) dL_law_877 cf7 rfl go_28 gc_28 rfl cat_iiii okL_law_X7_sale cwL_100 (Nat.le_of_ble_eq_true rfl) hcs rfl (ls0 := [some (rf 28 0), some (.int (eS E ((x3 + 1).toNatClampNeg))), some (.int (eS E ((x3 + 2).toNatClampNeg))), some (.int (eS E ((x3 + 3).toNatClampNeg))), some (.int (eS E ((x3 + 4).toNatClampNeg)))]) rfl hS (fun r215 h214 hS => ?_)
      refine wz_icmp_eq (tgt := 1195) dL_law_880 rfl (fun c216 => ?_) (fun c216 => ?_)
      · replace hS := hS.1 c216
        refine q_inc3 (v := (x3 + 5)) dL_law_1195 rfl (ltL_law_3) rfl (wz_goto (tgt := 18) dL_law_1198 rfl ?_)
        exact hS
      · replace hS := hS.2 c216
        refine wz_iconst dL_law_883 kiconst_0 ?_
        exact hS
    by_cases q217 : ((eS E (x3.toNatClampNeg)) &&& 31) = (21 : Int32)
    · refine wz_tab1 (tgt := 885) (j := 21) dL_law_32 (by rw [q217]; decide) (by decide) (by decide) rfl rfl ?_
      replace hS := hS.2.2.2.2.2.2.2.2.2.2.2.2.2.2.2.2.2.2.2.2.2.1 q217
      refine q_ald1 dL_law_885 (wz_aload_n dL_law_886 rfl (q_ild3 dL_law_887 (wz_iconst dL_law_888 kiconst_1 (wz_iadd dL_law_889 ?_))))
      obtain ⟨hi218, hS⟩ := hS
      refine wz_tI (v := (eS E ((x3 + 1).toNatClampNeg))) dL_law_890 (by decide) hi218 rfl ?_
      refine wz_virtI (M := ML) (pc := 891) (M' := MX6_twice) (n := 1) (As := [.int (eS E ((x3 + 1).toNatClampNeg))]) (st := []) dL_law_891 cf6 rfl go_0 gc_0 rfl cat_i okL_law_X6_twice cwL_101 (Nat.le_of_ble_eq_true rfl) hcs rfl (ls0 := [some (rf 0 0), some (.int (eS E ((x3 + 1).toNatClampNeg))), none]) rfl hS (fun r220 h219 hS => ?_)
      refine q_ald2 dL_law_894 (wz_aload_n dL_law_895 rfl (q_ild3 dL_law_896 (wz_iconst dL_law_897 kiconst_1 (wz_iadd dL_law_898 ?_))))
      obtain ⟨hi221, hS⟩ := hS
      refine wz_tI (v := (eS E ((x3 + 1).toNatClampNeg))) dL_law_899 (by decide) hi221 rfl ?_
      refine wz_virtI (M := ML) (pc := 900) (M' := MX7_twice) (n := 1) (As := [.int (eS E ((x3 + 1).toNatClampNeg))]) (st := [.int r220]) dL_law_900 cf7 rfl go_28 gc_28 rfl cat_i okL_law_X7_twice cwL_104 (Nat.le_of_ble_eq_true rfl) hcs rfl (ls0 := [some (rf 28 0), some (.int (eS E ((x3 + 1).toNatClampNeg))), none, none]) rfl hS (fun r223 h222 hS => ?_)
      refine wz_icmp_eq (tgt := 1195) dL_law_903 rfl (fun c224 => ?_) (fun c224 => ?_)
      · replace hS := hS.1 c224
        refine q_inc3 (v := (x3 + 5)) dL_law_1195 rfl (ltL_law_3) rfl (wz_goto (tgt := 18) dL_law_1198 rfl ?_)
        exact hS
      · replace hS := hS.2 c224
        refine wz_iconst dL_law_906 kiconst_0 ?_
        exact hS
    by_cases q225 : ((eS E (x3.toNatClampNeg)) &&& 31) = (22 : Int32)
    · refine wz_tab1 (tgt := 908) (j := 22) dL_law_32 (by rw [q225]; decide) (by decide) (by decide) rfl rfl ?_
      replace hS := hS.2.2.2.2.2.2.2.2.2.2.2.2.2.2.2.2.2.2.2.2.2.2.1 q225
      refine q_ald1 dL_law_908 (wz_aload_n dL_law_909 rfl (q_ild3 dL_law_910 (wz_iconst dL_law_911 kiconst_1 (wz_iadd dL_law_912 ?_))))
      obtain ⟨hi226, hS⟩ := hS
      refine wz_tI (v := (eS E ((x3 + 1).toNatClampNeg))) dL_law_913 (by decide) hi226 rfl (wz_aload_n dL_law_914 rfl (q_ild3 dL_law_915 (wz_iconst dL_law_916 kiconst_2 (wz_iadd dL_law_917 ?_))))
      obtain ⟨hi227, hS⟩ := hS
      refine wz_tI (v := (eS E ((x3 + 2).toNatClampNeg))) dL_law_918 (by decide) hi227 rfl (wz_aload_n dL_law_919 rfl (q_ild3 dL_law_920 (wz_iconst dL_law_921 kiconst_3 (wz_iadd dL_law_922 ?_))))
      obtain ⟨hi228, hS⟩ := hS
      refine wz_tI (v := (eS E ((x3 + 3).toNatClampNeg))) dL_law_923 (by decide) hi228 rfl ?_
      refine wz_virtI (M := ML) (pc := 924) (M' := MX6_sign) (n := 3) (As := [.int (eS E ((x3 + 1).toNatClampNeg)), .int (eS E ((x3 + 2).toNatClampNeg)), .int (eS E ((x3 + 3).toNatClampNeg))]) (st := []) dL_law_924 cf6 rfl go_0 gc_0 rfl cat_iii okL_law_X6_sign cwL_105 (Nat.le_of_ble_eq_true rfl) hcs rfl (ls0 := [some (rf 0 0), some (.int (eS E ((x3 + 1).toNatClampNeg))), some (.int (eS E ((x3 + 2).toNatClampNeg))), some (.int (eS E ((x3 + 3).toNatClampNeg))), none]) rfl hS (fun r230 h229 hS => ?_)
      refine q_ald2 dL_law_927 (wz_aload_n dL_law_928 rfl (q_ild3 dL_law_929 (wz_iconst dL_law_930 kiconst_1 (wz_iadd dL_law_931 ?_))))
      obtain ⟨hi231, hS⟩ := hS
      refine wz_tI (v := (eS E ((x3 + 1).toNatClampNeg))) dL_law_932 (by decide) hi231 rfl (wz_aload_n dL_law_933 rfl (q_ild3 dL_law_934 (wz_iconst dL_law_935 kiconst_2 (wz_iadd dL_law_936 ?_))))
      obtain ⟨hi232, hS⟩ := hS
      refine wz_tI (v := (eS E ((x3 + 2).toNatClampNeg))) dL_law_937 (by decide) hi232 rfl (wz_aload_n dL_law_938 rfl (q_ild3 dL_law_939 (wz_iconst dL_law_940 kiconst_3 (wz_iadd dL_law_941 ?_))))
      obtain ⟨hi233, hS⟩ := hS
      refine wz_tI (v := (eS E ((x3 + 3).toNatClampNeg))) dL_law_942 (by decide) hi233 rfl ?_
      refine wz_virtI (M := ML) (pc := 943) (M' := MX7_sign) (n := 3) (As := [.int (eS E ((x3 + 1).toNatClampNeg)), .int (eS E ((x3 + 2).toNatClampNeg)), .int (eS E ((x3 + 3).toNatClampNeg))]) (st := [.int r230]) dL_law_943 cf7 rfl go_28 gc_28 rfl cat_iii okL_law_X7_sign cwL_108 (Nat.le_of_ble_eq_true rfl) hcs rfl (ls0 := [some (rf 28 0), some (.int (eS E ((x3 + 1).toNatClampNeg))), some (.int (eS E ((x3 + 2).toNatClampNeg))), some (.int (eS E ((x3 + 3).toNatClampNeg))), none, none, none, none, none]) rfl hS (fun r235 h234 hS => ?_)
      refine wz_icmp_eq (tgt := 1195) dL_law_946 rfl (fun c236 => ?_) (fun c236 => ?_)
      · replace hS := hS.1 c236
        refine q_inc3 (v := (x3 + 5)) dL_law_1195 rfl (ltL_law_3) rfl (wz_goto (tgt := 18) dL_law_1198 rfl ?_)
        exact hS
      · replace hS := hS.2 c236
        refine wz_iconst dL_law_949 kiconst_0 ?_
        exact hS
    by_cases q237 : ((eS E (x3.toNatClampNeg)) &&& 31) = (23 : Int32)
    · refine wz_tab1 (tgt := 951) (j := 23) dL_law_32 (by rw [q237]; decide) (by decide) (by decide) rfl rfl ?_
      replace hS := hS.2.2.2.2.2.2.2.2.2.2.2.2.2.2.2.2.2.2.2.2.2.2.2.1 q237
      refine q_ald1 dL_law_951 (wz_aload_n dL_law_952 rfl (q_ild3 dL_law_953 (wz_iconst dL_law_954 kiconst_1 (wz_iadd dL_law_955 ?_))))
      obtain ⟨hi238, hS⟩ := hS
      refine wz_tI (v := (eS E ((x3 + 1).toNatClampNeg))) dL_law_956 (by decide) hi238 rfl (wz_aload_n dL_law_957 rfl (q_ild3 dL_law_958 (wz_iconst dL_law_959 kiconst_2 (wz_iadd dL_law_960 ?_))))
      obtain ⟨hi239, hS⟩ := hS
      refine wz_tI (v := (eS E ((x3 + 2).toNatClampNeg))) dL_law_961 (by decide) hi239 rfl (wz_aload_n dL_law_962 rfl (q_ild3 dL_law_963 (wz_iconst dL_law_964 kiconst_3 (wz_iadd dL_law_965 ?_))))
      obtain ⟨hi240, hS⟩ := hS
      refine wz_tI (v := (eS E ((x3 + 3).toNatClampNeg))) dL_law_966 (by decide) hi240 rfl ?_
      refine wz_virtI (M := ML) (pc := 967) (M' := MX6_in) (n := 3) (As := [.int (eS E ((x3 + 1).toNatClampNeg)), .int (eS E ((x3 + 2).toNatClampNeg)), .int (eS E ((x3 + 3).toNatClampNeg))]) (st := []) dL_law_967 cf6 rfl go_0 gc_0 rfl cat_iii okL_law_X6_in cwL_109 (Nat.le_of_ble_eq_true rfl) hcs rfl (ls0 := [some (rf 0 0), some (.int (eS E ((x3 + 1).toNatClampNeg))), some (.int (eS E ((x3 + 2).toNatClampNeg))), some (.int (eS E ((x3 + 3).toNatClampNeg)))]) rfl hS (fun r242 h241 hS => ?_)
      refine q_ald2 dL_law_970 (wz_aload_n dL_law_971 rfl (q_ild3 dL_law_972 (wz_iconst dL_law_973 kiconst_1 (wz_iadd dL_law_974 ?_))))
      obtain ⟨hi243, hS⟩ := hS
      refine wz_tI (v := (eS E ((x3 + 1).toNatClampNeg))) dL_law_975 (by decide) hi243 rfl (wz_aload_n dL_law_976 rfl (q_ild3 dL_law_977 (wz_iconst dL_law_978 kiconst_2 (wz_iadd dL_law_979 ?_))))
      obtain ⟨hi244, hS⟩ := hS
      refine wz_tI (v := (eS E ((x3 + 2).toNatClampNeg))) dL_law_980 (by decide) hi244 rfl (wz_aload_n dL_law_981 rfl (q_ild3 dL_law_982 (wz_iconst dL_law_983 kiconst_3 (wz_iadd dL_law_984 ?_))))
      obtain ⟨hi245, hS⟩ := hS
      refine wz_tI (v := (eS E ((x3 + 3).toNatClampNeg))) dL_law_985 (by decide) hi245 rfl ?_
      refine wz_virtI (M := ML) (pc := 986) (M' := MX7_in) (n := 3) (As := [.int (eS E ((x3 + 1).toNatClampNeg)), .int (eS E ((x3 + 2).toNatClampNeg)), .int (eS E ((x3 + 3).toNatClampNeg))]) (st := [.int r242]) dL_law_986 cf7 rfl go_28 gc_28 rfl cat_iii okL_law_X7_in cwL_112 (Nat.le_of_ble_eq_true rfl) hcs rfl (ls0 := [some (rf 28 0), some (.int (eS E ((x3 + 1).toNatClampNeg))), some (.int (eS E ((x3 + 2).toNatClampNeg))), some (.int (eS E ((x3 + 3).toNatClampNeg)))]) rfl hS (fun r247 h246 hS => ?_)
      refine wz_icmp_eq (tgt := 1195) dL_law_989 rfl (fun c248 => ?_) (fun c248 => ?_)
      · replace hS := hS.1 c248
        refine q_inc3 (v := (x3 + 5)) dL_law_1195 rfl (ltL_law_3) rfl (wz_goto (tgt := 18) dL_law_1198 rfl ?_)
        exact hS
      · replace hS := hS.2 c248
        refine wz_iconst dL_law_992 kiconst_0 ?_
        exact hS
    by_cases q249 : ((eS E (x3.toNatClampNeg)) &&& 31) = (24 : Int32)
    · refine wz_tab1 (tgt := 994) (j := 24) dL_law_32 (by rw [q249]; decide) (by decide) (by decide) rfl rfl ?_
      replace hS := hS.2.2.2.2.2.2.2.2.2.2.2.2.2.2.2.2.2.2.2.2.2.2.2.2.1 q249
      refine q_ald1 dL_law_994 (wz_aload_n dL_law_995 rfl (q_ild3 dL_law_996 (wz_iconst dL_law_997 kiconst_1 (wz_iadd dL_law_998 ?_))))
      obtain ⟨hi250, hS⟩ := hS
      refine wz_tI (v := (eS E ((x3 + 1).toNatClampNeg))) dL_law_999 (by decide) hi250 rfl (wz_aload_n dL_law_1000 rfl (q_ild3 dL_law_1001 (wz_iconst dL_law_1002 kiconst_2 (wz_iadd dL_law_1003 ?_))))
      obtain ⟨hi251, hS⟩ := hS
      refine wz_tI (v := (eS E ((x3 + 2).toNatClampNeg))) dL_law_1004 (by decide) hi251 rfl ?_
      refine wz_virtI (M := ML) (pc := 1005) (M' := MX6_out) (n := 2) (As := [.int (eS E ((x3 + 1).toNatClampNeg)), .int (eS E ((x3 + 2).toNatClampNeg))]) (st := []) dL_law_1005 cf6 rfl go_0 gc_0 rfl cat_ii okL_law_X6_out cwL_113 (Nat.le_of_ble_eq_true rfl) hcs rfl (ls0 := [some (rf 0 0), some (.int (eS E ((x3 + 1).toNatClampNeg))), some (.int (eS E ((x3 + 2).toNatClampNeg))), none]) rfl hS (fun r253 h252 hS => ?_)
      refine q_ald2 dL_law_1008 (wz_aload_n dL_law_1009 rfl (q_ild3 dL_law_1010 (wz_iconst dL_law_1011 kiconst_1 (wz_iadd dL_law_1012 ?_))))
      obtain ⟨hi254, hS⟩ := hS
      refine wz_tI (v := (eS E ((x3 + 1).toNatClampNeg))) dL_law_1013 (by decide) hi254 rfl (wz_aload_n dL_law_1014 rfl (q_ild3 dL_law_1015 (wz_iconst dL_law_1016 kiconst_2 (wz_iadd dL_law_1017 ?_))))
      obtain ⟨hi255, hS⟩ := hS
      refine wz_tI (v := (eS E ((x3 + 2).toNatClampNeg))) dL_law_1018 (by decide) hi255 rfl ?_
      refine wz_virtI (M := ML) (pc := 1019) (M' := MX7_out) (n := 2) (As := [.int (eS E ((x3 + 1).toNatClampNeg)), .int (eS E ((x3 + 2).toNatClampNeg))]) (st := [.int r253]) dL_law_1019 cf7 rfl go_28 gc_28 rfl cat_ii okL_law_X7_out cwL_116 (Nat.le_of_ble_eq_true rfl) hcs rfl (ls0 := [some (rf 28 0), some (.int (eS E ((x3 + 1).toNatClampNeg))), some (.int (eS E ((x3 + 2).toNatClampNeg)))]) rfl hS (fun r257 h256 hS => ?_)
      refine wz_icmp_eq (tgt := 1195) dL_law_1022 rfl (fun c258 => ?_) (fun c258 => ?_)
      · replace hS := hS.1 c258
        refine q_inc3 (v := (x3 + 5)) dL_law_1195 rfl (ltL_law_3) rfl (wz_goto (tgt := 18) dL_law_1198 rfl ?_)
        exact hS
      · replace hS := hS.2 c258
        refine wz_iconst dL_law_1025 kiconst_0 ?_
        exact hS
    by_cases q259 : ((eS E (x3.toNatClampNeg)) &&& 31) = (25 : Int32)
    · refine wz_tab1 (tgt := 1027) (j := 25) dL_law_32 (by rw [q259]; decide) (by decide) (by decide) rfl rfl ?_
      replace hS := hS.2.2.2.2.2.2.2.2.2.2.2.2.2.2.2.2.2.2.2.2.2.2.2.2.2.1 q259
      refine q_ald1 dL_law_1027 (wz_aload_n dL_law_1028 rfl (q_ild3 dL_law_1029 (wz_iconst dL_law_1030 kiconst_1 (wz_iadd dL_law_1031 ?_))))
      obtain ⟨hi260, hS⟩ := hS
      refine wz_tI (v := (eS E ((x3 + 1).toNatClampNeg))) dL_law_1032 (by decide) hi260 rfl (wz_aload_n dL_law_1033 rfl (q_ild3 dL_law_1034 (wz_iconst dL_law_1035 kiconst_2 (wz_iadd dL_law_1036 ?_))))
      obtain ⟨hi261, hS⟩ := hS
      refine wz_tI (v := (eS E ((x3 + 2).toNatClampNeg))) dL_law_1037 (by decide) hi261 rfl ?_
      refine wz_virtI (M := ML) (pc := 1038) (M' := MX6_trace) (n := 2) (As := [.int (eS E ((x3 + 1).toNatClampNeg)), .int (eS E ((x3 + 2).toNatClampNeg))]) (st := []) dL_law_1038 cf6 rfl go_0 gc_0 rfl cat_ii okL_law_X6_trace cwL_117 (Nat.le_of_ble_eq_true rfl) hcs rfl (ls0 := [some (rf 0 0), some (.int (eS E ((x3 + 1).toNatClampNeg))), some (.int (eS E ((x3 + 2).toNatClampNeg)))]) rfl hS (fun r263 h262 hS => ?_)
      refine q_ald2 dL_law_1041 (wz_aload_n dL_law_1042 rfl (q_ild3 dL_law_1043 (wz_iconst dL_law_1044 kiconst_1 (wz_iadd dL_law_1045 ?_))))
      obtain ⟨hi264, hS⟩ := hS
      refine wz_tI (v := (eS E ((x3 + 1).toNatClampNeg))) dL_law_1046 (by decide) hi264 rfl (wz_aload_n dL_law_1047 rfl (q_ild3 dL_law_1048 (wz_iconst dL_law_1049 kiconst_2 (wz_iadd dL_law_1050 ?_))))
      obtain ⟨hi265, hS⟩ := hS
      refine wz_tI (v := (eS E ((x3 + 2).toNatClampNeg))) dL_law_1051 (by decide) hi265 rfl ?_
      refine wz_virtI (M := ML) (pc := 1052) (M' := MX7_trace) (n := 2) (As := [.int (eS E ((x3 + 1).toNatClampNeg)), .int (eS E ((x3 + 2).toNatClampNeg))]) (st := [.int r263]) dL_law_1052 cf7 rfl go_28 gc_28 rfl cat_ii okL_law_X7_trace cwL_120 (Nat.le_of_ble_eq_true rfl) hcs rfl (ls0 := [some (rf 28 0), some (.int (eS E ((x3 + 1).toNatClampNeg))), some (.int (eS E ((x3 + 2).toNatClampNeg)))]) rfl hS (fun r267 h266 hS => ?_)
      refine wz_icmp_eq (tgt := 1195) dL_law_1055 rfl (fun c268 => ?_) (fun c268 => ?_)
      · replace hS := hS.1 c268
        refine q_inc3 (v := (x3 + 5)) dL_law_1195 rfl (ltL_law_3) rfl (wz_goto (tgt := 18) dL_law_1198 rfl ?_)
        exact hS
      · replace hS := hS.2 c268
        refine wz_iconst dL_law_1058 kiconst_0 ?_
        exact hS
    by_cases q269 : ((eS E (x3.toNatClampNeg)) &&& 31) = (26 : Int32)
    · refine wz_tab1 (tgt := 1060) (j := 26) dL_law_32 (by rw [q269]; decide) (by decide) (by decide) rfl rfl ?_
      replace hS := hS.2.2.2.2.2.2.2.2.2.2.2.2.2.2.2.2.2.2.2.2.2.2.2.2.2.2.1 q269
      refine q_ald1 dL_law_1060 (wz_aload_n dL_law_1061 rfl (q_ild3 dL_law_1062 (wz_iconst dL_law_1063 kiconst_1 (wz_iadd dL_law_1064 ?_))))
      obtain ⟨hi270, hS⟩ := hS
      refine wz_tI (v := (eS E ((x3 + 1).toNatClampNeg))) dL_law_1065 (by decide) hi270 rfl (wz_aload_n dL_law_1066 rfl (q_ild3 dL_law_1067 (wz_iconst dL_law_1068 kiconst_2 (wz_iadd dL_law_1069 ?_))))
      obtain ⟨hi271, hS⟩ := hS
      refine wz_tI (v := (eS E ((x3 + 2).toNatClampNeg))) dL_law_1070 (by decide) hi271 rfl (wz_aload_n dL_law_1071 rfl (q_ild3 dL_law_1072 (wz_iconst dL_law_1073 kiconst_3 (wz_iadd dL_law_1074 ?_))))
      obtain ⟨hi272, hS⟩ := hS
      refine wz_tI (v := (eS E ((x3 + 3).toNatClampNeg))) dL_law_1075 (by decide) hi272 rfl ?_
      refine wz_virtI (M := ML) (pc := 1076) (M' := MX6_held) (n := 3) (As := [.int (eS E ((x3 + 1).toNatClampNeg)), .int (eS E ((x3 + 2).toNatClampNeg)), .int (eS E ((x3 + 3).toNatClampNeg))]) (st := []) dL_law_1076 cf6 rfl go_0 gc_0 rfl cat_iii okL_law_X6_held cwL_121 (Nat.le_of_ble_eq_true rfl) hcs rfl (ls0 := [some (rf 0 0), some (.int (eS E ((x3 + 1).toNatClampNeg))), some (.int (eS E ((x3 + 2).toNatClampNeg))), some (.int (eS E ((x3 + 3).toNatClampNeg)))]) rfl hS (fun r274 h273 hS => ?_)
      refine q_ald2 dL_law_1079 (wz_aload_n dL_law_1080 rfl (q_ild3 dL_law_1081 (wz_iconst dL_law_1082 kiconst_1 (wz_iadd dL_law_1083 ?_))))
      obtain ⟨hi275, hS⟩ := hS
      refine wz_tI (v := (eS E ((x3 + 1).toNatClampNeg))) dL_law_1084 (by decide) hi275 rfl (wz_aload_n dL_law_1085 rfl (q_ild3 dL_law_1086 (wz_iconst dL_law_1087 kiconst_2 (wz_iadd dL_law_1088 ?_))))
      obtain ⟨hi276, hS⟩ := hS
      refine wz_tI (v := (eS E ((x3 + 2).toNatClampNeg))) dL_law_1089 (by decide) hi276 rfl (wz_aload_n dL_law_1090 rfl (q_ild3 dL_law_1091 (wz_iconst dL_law_1092 kiconst_3 (wz_iadd dL_law_1093 ?_))))
      obtain ⟨hi277, hS⟩ := hS
      refine wz_tI (v := (eS E ((x3 + 3).toNatClampNeg))) dL_law_1094 (by decide) hi277 rfl ?_
      refine wz_virtI (M := ML) (pc := 1095) (M' := MX7_held) (n := 3) (As := [.int (eS E ((x3 + 1).toNatClampNeg)), .int (eS E ((x3 + 2).toNatClampNeg)), .int (eS E ((x3 + 3).toNatClampNeg))]) (st := [.int r274]) dL_law_1095 cf7 rfl go_28 gc_28 rfl cat_iii okL_law_X7_held cwL_124 (Nat.le_of_ble_eq_true rfl) hcs rfl (ls0 := [some (rf 28 0), some (.int (eS E ((x3 + 1).toNatClampNeg))), some (.int (eS E ((x3 + 2).toNatClampNeg))), some (.int (eS E ((x3 + 3).toNatClampNeg))), none, none]) rfl hS (fun r279 h278 hS => ?_)
      refine wz_icmp_eq (tgt := 1195) dL_law_1098 rfl (fun c280 => ?_) (fun c280 => ?_)
      · replace hS := hS.1 c280
        refine q_inc3 (v := (x3 + 5)) dL_law_1195 rfl (ltL_law_3) rfl (wz_goto (tgt := 18) dL_law_1198 rfl ?_)
        exact hS
      · replace hS := hS.2 c280
        refine wz_iconst dL_law_1101 kiconst_0 ?_
        exact hS
    by_cases q281 : ((eS E (x3.toNatClampNeg)) &&& 31) = (27 : Int32)
    · refine wz_tab1 (tgt := 1103) (j := 27) dL_law_32 (by rw [q281]; decide) (by decide) (by decide) rfl rfl ?_
      replace hS := hS.2.2.2.2.2.2.2.2.2.2.2.2.2.2.2.2.2.2.2.2.2.2.2.2.2.2.2.1 q281
      refine q_ald1 dL_law_1103 (wz_aload_n dL_law_1104 rfl (q_ild3 dL_law_1105 (wz_iconst dL_law_1106 kiconst_1 (wz_iadd dL_law_1107 ?_))))
      obtain ⟨hi282, hS⟩ := hS
      refine wz_tI (v := (eS E ((x3 + 1).toNatClampNeg))) dL_law_1108 (by decide) hi282 rfl ?_
      refine wz_virtI (M := ML) (pc := 1109) (M' := MX6_tell) (n := 1) (As := [.int (eS E ((x3 + 1).toNatClampNeg))]) (st := []) dL_law_1109 cf6 rfl go_0 gc_0 rfl cat_i okL_law_X6_tell cwL_125 (Nat.le_of_ble_eq_true rfl) hcs rfl (ls0 := [some (rf 0 0), some (.int (eS E ((x3 + 1).toNatClampNeg)))]) rfl hS (fun r284 h283 hS => ?_)
      refine q_ald2 dL_law_1112 (wz_aload_n dL_law_1113 rfl (q_ild3 dL_law_1114 (wz_iconst dL_law_1115 kiconst_1 (wz_iadd dL_law_1116 ?_))))
      obtain ⟨hi285, hS⟩ := hS
      refine wz_tI (v := (eS E ((x3 + 1).toNatClampNeg))) dL_law_1117 (by decide) hi285 rfl ?_
      refine wz_virtI (M := ML) (pc := 1118) (M' := MX7_tell) (n := 1) (As := [.int (eS E ((x3 + 1).toNatClampNeg))]) (st := [.int r284]) dL_law_1118 cf7 rfl go_28 gc_28 rfl cat_i okL_law_X7_tell cwL_128 (Nat.le_of_ble_eq_true rfl) hcs rfl (ls0 := [some (rf 28 0), some (.int (eS E ((x3 + 1).toNatClampNeg)))]) rfl hS (fun r287 h286 hS => ?_)
      refine wz_icmp_eq (tgt := 1195) dL_law_1121 rfl (fun c288 => ?_) (fun c288 => ?_)
      · replace hS := hS.1 c288
        refine q_inc3 (v := (x3 + 5)) dL_law_1195 rfl (ltL_law_3) rfl (wz_goto (tgt := 18) dL_law_1198 rfl ?_)
        exact hS
      · replace hS := hS.2 c288
        refine wz_iconst dL_law_1124 kiconst_0 ?_
        exact hS
    by_cases q289 : ((eS E (x3.toNatClampNeg)) &&& 31) = (28 : Int32)
    · refine wz_tab1 (tgt := 1126) (j := 28) dL_law_32 (by rw [q289]; decide) (by decide) (by decide) rfl rfl ?_
      replace hS := hS.2.2.2.2.2.2.2.2.2.2.2.2.2.2.2.2.2.2.2.2.2.2.2.2.2.2.2.2.1 q289
      refine q_ald1 dL_law_1126 (wz_aload_n dL_law_1127 rfl (q_ild3 dL_law_1128 (wz_iconst dL_law_1129 kiconst_1 (wz_iadd dL_law_1130 ?_))))
      obtain ⟨hi290, hS⟩ := hS
      refine wz_tI (v := (eS E ((x3 + 1).toNatClampNeg))) dL_law_1131 (by decide) hi290 rfl ?_
      refine wz_virtI (M := ML) (pc := 1132) (M' := MX6_check) (n := 1) (As := [.int (eS E ((x3 + 1).toNatClampNeg))]) (st := []) dL_law_1132 cf6 rfl go_0 gc_0 rfl cat_i okL_law_X6_check cwL_129 (Nat.le_of_ble_eq_true rfl) hcs rfl (ls0 := [some (rf 0 0), some (.int (eS E ((x3 + 1).toNatClampNeg))), none, none]) rfl hS (fun r292 h291 hS => ?_)
      refine q_ald2 dL_law_1135 (wz_aload_n dL_law_1136 rfl (q_ild3 dL_law_1137 (wz_iconst dL_law_1138 kiconst_1 (wz_iadd dL_law_1139 ?_))))
      obtain ⟨hi293, hS⟩ := hS
      refine wz_tI (v := (eS E ((x3 + 1).toNatClampNeg))) dL_law_1140 (by decide) hi293 rfl ?_
      refine wz_virtI (M := ML) (pc := 1141) (M' := MX7_check) (n := 1) (As := [.int (eS E ((x3 + 1).toNatClampNeg))]) (st := [.int r292]) dL_law_1141 cf7 rfl go_28 gc_28 rfl cat_i okL_law_X7_check cwL_132 (Nat.le_of_ble_eq_true rfl) hcs rfl (ls0 := [some (rf 28 0), some (.int (eS E ((x3 + 1).toNatClampNeg))), none, none]) rfl hS (fun r295 h294 hS => ?_)
      refine wz_icmp_eq (tgt := 1195) dL_law_1144 rfl (fun c296 => ?_) (fun c296 => ?_)
      · replace hS := hS.1 c296
        refine q_inc3 (v := (x3 + 5)) dL_law_1195 rfl (ltL_law_3) rfl (wz_goto (tgt := 18) dL_law_1198 rfl ?_)
        exact hS
      · replace hS := hS.2 c296
        refine wz_iconst dL_law_1147 kiconst_0 ?_
        exact hS
    by_cases q297 : ((eS E (x3.toNatClampNeg)) &&& 31) = (29 : Int32)
    · refine wz_tab1 (tgt := 1149) (j := 29) dL_law_32 (by rw [q297]; decide) (by decide) (by decide) rfl rfl ?_
      replace hS := hS.2.2.2.2.2.2.2.2.2.2.2.2.2.2.2.2.2.2.2.2.2.2.2.2.2.2.2.2.2.1 q297
      refine q_ald1 dL_law_1149 (wz_aload_n dL_law_1150 rfl (q_ild3 dL_law_1151 (wz_iconst dL_law_1152 kiconst_1 (wz_iadd dL_law_1153 ?_))))
      obtain ⟨hi298, hS⟩ := hS
      refine wz_tI (v := (eS E ((x3 + 1).toNatClampNeg))) dL_law_1154 (by decide) hi298 rfl ?_
      refine wz_virtI (M := ML) (pc := 1155) (M' := MX6_count) (n := 1) (As := [.int (eS E ((x3 + 1).toNatClampNeg))]) (st := []) dL_law_1155 cf6 rfl go_0 gc_0 rfl cat_i okL_law_X6_count cwL_133 (Nat.le_of_ble_eq_true rfl) hcs rfl (ls0 := [some (rf 0 0), some (.int (eS E ((x3 + 1).toNatClampNeg)))]) rfl hS (fun r300 h299 hS => ?_)
      refine q_ald2 dL_law_1158 (wz_aload_n dL_law_1159 rfl (q_ild3 dL_law_1160 (wz_iconst dL_law_1161 kiconst_1 (wz_iadd dL_law_1162 ?_))))
      obtain ⟨hi301, hS⟩ := hS
      refine wz_tI (v := (eS E ((x3 + 1).toNatClampNeg))) dL_law_1163 (by decide) hi301 rfl ?_
      refine wz_virtI (M := ML) (pc := 1164) (M' := MX7_count) (n := 1) (As := [.int (eS E ((x3 + 1).toNatClampNeg))]) (st := [.int r300]) dL_law_1164 cf7 rfl go_28 gc_28 rfl cat_i okL_law_X7_count cwL_136 (Nat.le_of_ble_eq_true rfl) hcs rfl (ls0 := [some (rf 28 0), some (.int (eS E ((x3 + 1).toNatClampNeg))), none, none]) rfl hS (fun r303 h302 hS => ?_)
      refine wz_icmp_eq (tgt := 1195) dL_law_1167 rfl (fun c304 => ?_) (fun c304 => ?_)
      · replace hS := hS.1 c304
        refine q_inc3 (v := (x3 + 5)) dL_law_1195 rfl (ltL_law_3) rfl (wz_goto (tgt := 18) dL_law_1198 rfl ?_)
        exact hS
      · replace hS := hS.2 c304
        refine wz_iconst dL_law_1170 kiconst_0 ?_
        exact hS
    by_cases q305 : ((eS E (x3.toNatClampNeg)) &&& 31) = (30 : Int32)
    · refine wz_tab1 (tgt := 1172) (j := 30) dL_law_32 (by rw [q305]; decide) (by decide) (by decide) rfl rfl ?_
      replace hS := hS.2.2.2.2.2.2.2.2.2.2.2.2.2.2.2.2.2.2.2.2.2.2.2.2.2.2.2.2.2.2.1 q305
      refine q_ald1 dL_law_1172 (wz_aload_n dL_law_1173 rfl (q_ild3 dL_law_1174 (wz_iconst dL_law_1175 kiconst_1 (wz_iadd dL_law_1176 ?_))))
      obtain ⟨hi306, hS⟩ := hS
      refine wz_tI (v := (eS E ((x3 + 1).toNatClampNeg))) dL_law_1177 (by decide) hi306 rfl ?_
      refine wz_virtI (M := ML) (pc := 1178) (M' := MX6_found) (n := 1) (As := [.int (eS E ((x3 + 1).toNatClampNeg))]) (st := []) dL_law_1178 cf6 rfl go_0 gc_0 rfl cat_i okL_law_X6_found cwL_137 (Nat.le_of_ble_eq_true rfl) hcs rfl (ls0 := [some (rf 0 0), some (.int (eS E ((x3 + 1).toNatClampNeg)))]) rfl hS (fun r308 h307 hS => ?_)
      refine q_ald2 dL_law_1181 (wz_aload_n dL_law_1182 rfl (q_ild3 dL_law_1183 (wz_iconst dL_law_1184 kiconst_1 (wz_iadd dL_law_1185 ?_))))
      obtain ⟨hi309, hS⟩ := hS
      refine wz_tI (v := (eS E ((x3 + 1).toNatClampNeg))) dL_law_1186 (by decide) hi309 rfl ?_
      refine wz_virtI (M := ML) (pc := 1187) (M' := MX7_found) (n := 1) (As := [.int (eS E ((x3 + 1).toNatClampNeg))]) (st := [.int r308]) dL_law_1187 cf7 rfl go_28 gc_28 rfl cat_i okL_law_X7_found cwL_140 (Nat.le_of_ble_eq_true rfl) hcs rfl (ls0 := [some (rf 28 0), some (.int (eS E ((x3 + 1).toNatClampNeg)))]) rfl hS (fun r311 h310 hS => ?_)
      refine wz_icmp_eq (tgt := 1195) dL_law_1190 rfl (fun c312 => ?_) (fun c312 => ?_)
      · replace hS := hS.1 c312
        refine q_inc3 (v := (x3 + 5)) dL_law_1195 rfl (ltL_law_3) rfl (wz_goto (tgt := 18) dL_law_1198 rfl ?_)
        exact hS
      · replace hS := hS.2 c312
        refine wz_iconst dL_law_1193 kiconst_0 ?_
        exact hS
    refine wz_tabD (tgt := 1195) dL_law_32 (tab_out (lo := 0) (n := 31) (by decide) (by decide) (fun j hj => match j, hj with | 0, _ => fun z => q3 (Int32.toInt_inj.mp (z.trans (by decide))) | 1, _ => fun z => q11 (Int32.toInt_inj.mp (z.trans (by decide))) | 2, _ => fun z => q21 (Int32.toInt_inj.mp (z.trans (by decide))) | 3, _ => fun z => q33 (Int32.toInt_inj.mp (z.trans (by decide))) | 4, _ => fun z => q43 (Int32.toInt_inj.mp (z.trans (by decide))) | 5, _ => fun z => q55 (Int32.toInt_inj.mp (z.trans (by decide))) | 6, _ => fun z => q67 (Int32.toInt_inj.mp (z.trans (by decide))) | 7, _ => fun z => q75 (Int32.toInt_inj.mp (z.trans (by decide))) | 8, _ => fun z => q85 (Int32.toInt_inj.mp (z.trans (by decide))) | 9, _ => fun z => q97 (Int32.toInt_inj.mp (z.trans (by decide))) | 10, _ => fun z => q107 (Int32.toInt_inj.mp (z.trans (by decide))) | 11, _ => fun z => q115 (Int32.toInt_inj.mp (z.trans (by decide))) | 12, _ => fun z => q125 (Int32.toInt_inj.mp (z.trans (by decide))) | 13, _ => fun z => q135 (Int32.toInt_inj.mp (z.trans (by decide))) | 14, _ => fun z => q143 (Int32.toInt_inj.mp (z.trans (by decide))) | 15, _ => fun z => q153 (Int32.toInt_inj.mp (z.trans (by decide))) | 16, _ => fun z => q163 (Int32.toInt_inj.mp (z.trans (by decide))) | 17, _ => fun z => q173 (Int32.toInt_inj.mp (z.trans (by decide))) | 18, _ => fun z => q183 (Int32.toInt_inj.mp (z.trans (by decide))) | 19, _ => fun z => q193 (Int32.toInt_inj.mp (z.trans (by decide))) | 20, _ => fun z => q203 (Int32.toInt_inj.mp (z.trans (by decide))) | 21, _ => fun z => q217 (Int32.toInt_inj.mp (z.trans (by decide))) | 22, _ => fun z => q225 (Int32.toInt_inj.mp (z.trans (by decide))) | 23, _ => fun z => q237 (Int32.toInt_inj.mp (z.trans (by decide))) | 24, _ => fun z => q249 (Int32.toInt_inj.mp (z.trans (by decide))) | 25, _ => fun z => q259 (Int32.toInt_inj.mp (z.trans (by decide))) | 26, _ => fun z => q269 (Int32.toInt_inj.mp (z.trans (by decide))) | 27, _ => fun z => q281 (Int32.toInt_inj.mp (z.trans (by decide))) | 28, _ => fun z => q289 (Int32.toInt_inj.mp (z.trans (by decide))) | 29, _ => fun z => q297 (Int32.toInt_inj.mp (z.trans (by decide))) | 30, _ => fun z => q305 (Int32.toInt_inj.mp (z.trans (by decide))) | j + 31, hj => absurd hj (by omega))) rfl ?_
    replace hS := hS.2.2.2.2.2.2.2.2.2.2.2.2.2.2.2.2.2.2.2.2.2.2.2.2.2.2.2.2.2.2.2 q3 q11 q21 q33 q43 q55 q67 q75 q85 q97 q107 q115 q125 q135 q143 q153 q163 q173 q183 q193 q203 q217 q225 q237 q249 q259 q269 q281 q289 q297 q305
    refine q_inc3 (v := (x3 + 5)) dL_law_1195 rfl (ltL_law_3) rfl (wz_goto (tgt := 18) dL_law_1198 rfl ?_)
    exact hS
