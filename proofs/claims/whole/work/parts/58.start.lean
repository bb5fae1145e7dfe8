def sTm : List Term := [Term.string "EyeTrainer$Tokens" 66, Term.string "EyeTrainer$Tokens" 72, Term.string "EyeTrainer$Tokens" 74, Term.string "EyeTrainer$Tokens" 76, Term.string "EyeTrainer$Tokens" 78, Term.string "EyeTrainer$Tokens" 80, Term.string "EyeTrainer$Tokens" 82, Term.string "EyeTrainer$Tokens" 104, Term.string "EyeTrainer$Tokens" 106, Term.string "EyeTrainer$Tokens" 108, Term.string "EyeTrainer$Tokens" 110, Term.string "EyeTrainer$Tokens" 112, Term.string "EyeTrainer$Tokens" 114, Term.string "EyeTrainer$Tokens" 116, Term.string "EyeTrainer$Tokens" 118, Term.string "EyeTrainer$Tokens" 88, Term.string "EyeTrainer$Tokens" 90, Term.string "EyeTrainer$Tokens" 92, Term.string "EyeTrainer$Tokens" 94, Term.string "EyeTrainer$Tokens" 96, Term.string "EyeTrainer$Tokens" 98, Term.string "EyeTrainer$Tokens" 100, Term.string "EyeTrainer$Tokens" 102, Term.string "EyeTrainer$Tokens" 55, Term.string "EyeTrainerModel" 83]
abbrev sT (i : Nat) : Term := sTm.getD i (Term.string "" 0)
abbrev sFl : List Cond := flatC (Jvm.Cond.and given_1 narrow_1)
set_option maxRecDepth 100000 in
theorem st_h0 : sFl[45]? = some (Cond.exactly (Term.string "EyeTrainer$Tokens" 66) "java/lang/String") ∧ sFl[46]? = some (Cond.eq (.field (Term.string "EyeTrainer$Tokens" 66) "java/lang/String" "coder" "B") (.int 0)) ∧ sFl[47]? = some (Cond.arrayOf (.field (Term.string "EyeTrainer$Tokens" 66) "java/lang/String" "value" "[B") .byte) ∧ sFl[48]? = some (Cond.eq (.length (.field (Term.string "EyeTrainer$Tokens" 66) "java/lang/String" "value" "[B")) (.int (Int32.ofNat 2))) := by decide +kernel
set_option maxRecDepth 100000 in
theorem st_e0_0 : ∀ k, k < 2 → sFl[49 + k]? = some (Cond.eq (.elem (.field (Term.string "EyeTrainer$Tokens" 66) "java/lang/String" "value" "[B") (.int (Int32.ofNat (0 + k)))) (.int ((sByt.getD 0 []).getD (0 + k) 0))) := by decide +kernel
set_option maxRecDepth 100000 in
theorem st_h1 : sFl[51]? = some (Cond.exactly (Term.string "EyeTrainer$Tokens" 72) "java/lang/String") ∧ sFl[52]? = some (Cond.eq (.field (Term.string "EyeTrainer$Tokens" 72) "java/lang/String" "coder" "B") (.int 0)) ∧ sFl[53]? = some (Cond.arrayOf (.field (Term.string "EyeTrainer$Tokens" 72) "java/lang/String" "value" "[B") .byte) ∧ sFl[54]? = some (Cond.eq (.length (.field (Term.string "EyeTrainer$Tokens" 72) "java/lang/String" "value" "[B")) (.int (Int32.ofNat 2))) := by decide +kernel
set_option maxRecDepth 100000 in
theorem st_e1_0 : ∀ k, k < 2 → sFl[55 + k]? = some (Cond.eq (.elem (.field (Term.string "EyeTrainer$Tokens" 72) "java/lang/String" "value" "[B") (.int (Int32.ofNat (0 + k)))) (.int ((sByt.getD 1 []).getD (0 + k) 0))) := by decide +kernel
set_option maxRecDepth 100000 in
theorem st_h2 : sFl[57]? = some (Cond.exactly (Term.string "EyeTrainer$Tokens" 74) "java/lang/String") ∧ sFl[58]? = some (Cond.eq (.field (Term.string "EyeTrainer$Tokens" 74) "java/lang/String" "coder" "B") (.int 0)) ∧ sFl[59]? = some (Cond.arrayOf (.field (Term.string "EyeTrainer$Tokens" 74) "java/lang/String" "value" "[B") .byte) ∧ sFl[60]? = some (Cond.eq (.length (.field (Term.string "EyeTrainer$Tokens" 74) "java/lang/String" "value" "[B")) (.int (Int32.ofNat 2))) := by decide +kernel
set_option maxRecDepth 100000 in
theorem st_e2_0 : ∀ k, k < 2 → sFl[61 + k]? = some (Cond.eq (.elem (.field (Term.string "EyeTrainer$Tokens" 74) "java/lang/String" "value" "[B") (.int (Int32.ofNat (0 + k)))) (.int ((sByt.getD 2 []).getD (0 + k) 0))) := by decide +kernel
set_option maxRecDepth 100000 in
theorem st_h3 : sFl[63]? = some (Cond.exactly (Term.string "EyeTrainer$Tokens" 76) "java/lang/String") ∧ sFl[64]? = some (Cond.eq (.field (Term.string "EyeTrainer$Tokens" 76) "java/lang/String" "coder" "B") (.int 0)) ∧ sFl[65]? = some (Cond.arrayOf (.field (Term.string "EyeTrainer$Tokens" 76) "java/lang/String" "value" "[B") .byte) ∧ sFl[66]? = some (Cond.eq (.length (.field (Term.string "EyeTrainer$Tokens" 76) "java/lang/String" "value" "[B")) (.int (Int32.ofNat 3))) := by decide +kernel
set_option maxRecDepth 100000 in
theorem st_e3_0 : ∀ k, k < 3 → sFl[67 + k]? = some (Cond.eq (.elem (.field (Term.string "EyeTrainer$Tokens" 76) "java/lang/String" "value" "[B") (.int (Int32.ofNat (0 + k)))) (.int ((sByt.getD 3 []).getD (0 + k) 0))) := by decide +kernel
set_option maxRecDepth 100000 in
theorem st_h4 : sFl[70]? = some (Cond.exactly (Term.string "EyeTrainer$Tokens" 78) "java/lang/String") ∧ sFl[71]? = some (Cond.eq (.field (Term.string "EyeTrainer$Tokens" 78) "java/lang/String" "coder" "B") (.int 0)) ∧ sFl[72]? = some (Cond.arrayOf (.field (Term.string "EyeTrainer$Tokens" 78) "java/lang/String" "value" "[B") .byte) ∧ sFl[73]? = some (Cond.eq (.length (.field (Term.string "EyeTrainer$Tokens" 78) "java/lang/String" "value" "[B")) (.int (Int32.ofNat 3))) := by decide +kernel
set_option maxRecDepth 100000 in
theorem st_e4_0 : ∀ k, k < 3 → sFl[74 + k]? = some (Cond.eq (.elem (.field (Term.string "EyeTrainer$Tokens" 78) "java/lang/String" "value" "[B") (.int (Int32.ofNat (0 + k)))) (.int ((sByt.getD 4 []).getD (0 + k) 0))) := by decide +kernel
set_option maxRecDepth 100000 in
theorem st_h5 : sFl[77]? = some (Cond.exactly (Term.string "EyeTrainer$Tokens" 80) "java/lang/String") ∧ sFl[78]? = some (Cond.eq (.field (Term.string "EyeTrainer$Tokens" 80) "java/lang/String" "coder" "B") (.int 0)) ∧ sFl[79]? = some (Cond.arrayOf (.field (Term.string "EyeTrainer$Tokens" 80) "java/lang/String" "value" "[B") .byte) ∧ sFl[80]? = some (Cond.eq (.length (.field (Term.string "EyeTrainer$Tokens" 80) "java/lang/String" "value" "[B")) (.int (Int32.ofNat 3))) := by decide +kernel
set_option maxRecDepth 100000 in
theorem st_e5_0 : ∀ k, k < 3 → sFl[81 + k]? = some (Cond.eq (.elem (.field (Term.string "EyeTrainer$Tokens" 80) "java/lang/String" "value" "[B") (.int (Int32.ofNat (0 + k)))) (.int ((sByt.getD 5 []).getD (0 + k) 0))) := by decide +kernel
set_option maxRecDepth 100000 in
theorem st_h6 : sFl[84]? = some (Cond.exactly (Term.string "EyeTrainer$Tokens" 82) "java/lang/String") ∧ sFl[85]? = some (Cond.eq (.field (Term.string "EyeTrainer$Tokens" 82) "java/lang/String" "coder" "B") (.int 0)) ∧ sFl[86]? = some (Cond.arrayOf (.field (Term.string "EyeTrainer$Tokens" 82) "java/lang/String" "value" "[B") .byte) ∧ sFl[87]? = some (Cond.eq (.length (.field (Term.string "EyeTrainer$Tokens" 82) "java/lang/String" "value" "[B")) (.int (Int32.ofNat 3))) := by decide +kernel
set_option maxRecDepth 100000 in
theorem st_e6_0 : ∀ k, k < 3 → sFl[88 + k]? = some (Cond.eq (.elem (.field (Term.string "EyeTrainer$Tokens" 82) "java/lang/String" "value" "[B") (.int (Int32.ofNat (0 + k)))) (.int ((sByt.getD 6 []).getD (0 + k) 0))) := by decide +kernel
set_option maxRecDepth 100000 in
theorem st_h7 : sFl[91]? = some (Cond.exactly (Term.string "EyeTrainer$Tokens" 104) "java/lang/String") ∧ sFl[92]? = some (Cond.eq (.field (Term.string "EyeTrainer$Tokens" 104) "java/lang/String" "coder" "B") (.int 0)) ∧ sFl[93]? = some (Cond.arrayOf (.field (Term.string "EyeTrainer$Tokens" 104) "java/lang/String" "value" "[B") .byte) ∧ sFl[94]? = some (Cond.eq (.length (.field (Term.string "EyeTrainer$Tokens" 104) "java/lang/String" "value" "[B")) (.int (Int32.ofNat 4))) := by decide +kernel
set_option maxRecDepth 100000 in
theorem st_e7_0 : ∀ k, k < 4 → sFl[95 + k]? = some (Cond.eq (.elem (.field (Term.string "EyeTrainer$Tokens" 104) "java/lang/String" "value" "[B") (.int (Int32.ofNat (0 + k)))) (.int ((sByt.getD 7 []).getD (0 + k) 0))) := by decide +kernel
set_option maxRecDepth 100000 in
theorem st_h8 : sFl[99]? = some (Cond.exactly (Term.string "EyeTrainer$Tokens" 106) "java/lang/String") ∧ sFl[100]? = some (Cond.eq (.field (Term.string "EyeTrainer$Tokens" 106) "java/lang/String" "coder" "B") (.int 0)) ∧ sFl[101]? = some (Cond.arrayOf (.field (Term.string "EyeTrainer$Tokens" 106) "java/lang/String" "value" "[B") .byte) ∧ sFl[102]? = some (Cond.eq (.length (.field (Term.string "EyeTrainer$Tokens" 106) "java/lang/String" "value" "[B")) (.int (Int32.ofNat 4))) := by decide +kernel
set_option maxRecDepth 100000 in
theorem st_e8_0 : ∀ k, k < 4 → sFl[103 + k]? = some (Cond.eq (.elem (.field (Term.string "EyeTrainer$Tokens" 106) "java/lang/String" "value" "[B") (.int (Int32.ofNat (0 + k)))) (.int ((sByt.getD 8 []).getD (0 + k) 0))) := by decide +kernel
set_option maxRecDepth 100000 in
theorem st_h9 : sFl[107]? = some (Cond.exactly (Term.string "EyeTrainer$Tokens" 108) "java/lang/String") ∧ sFl[108]? = some (Cond.eq (.field (Term.string "EyeTrainer$Tokens" 108) "java/lang/String" "coder" "B") (.int 0)) ∧ sFl[109]? = some (Cond.arrayOf (.field (Term.string "EyeTrainer$Tokens" 108) "java/lang/String" "value" "[B") .byte) ∧ sFl[110]? = some (Cond.eq (.length (.field (Term.string "EyeTrainer$Tokens" 108) "java/lang/String" "value" "[B")) (.int (Int32.ofNat 4))) := by decide +kernel
set_option maxRecDepth 100000 in
theorem st_e9_0 : ∀ k, k < 4 → sFl[111 + k]? = some (Cond.eq (.elem (.field (Term.string "EyeTrainer$Tokens" 108) "java/lang/String" "value" "[B") (.int (Int32.ofNat (0 + k)))) (.int ((sByt.getD 9 []).getD (0 + k) 0))) := by decide +kernel
set_option maxRecDepth 100000 in
theorem st_h10 : sFl[115]? = some (Cond.exactly (Term.string "EyeTrainer$Tokens" 110) "java/lang/String") ∧ sFl[116]? = some (Cond.eq (.field (Term.string "EyeTrainer$Tokens" 110) "java/lang/String" "coder" "B") (.int 0)) ∧ sFl[117]? = some (Cond.arrayOf (.field (Term.string "EyeTrainer$Tokens" 110) "java/lang/String" "value" "[B") .byte) ∧ sFl[118]? = some (Cond.eq (.length (.field (Term.string "EyeTrainer$Tokens" 110) "java/lang/String" "value" "[B")) (.int (Int32.ofNat 4))) := by decide +kernel
set_option maxRecDepth 100000 in
theorem st_e10_0 : ∀ k, k < 4 → sFl[119 + k]? = some (Cond.eq (.elem (.field (Term.string "EyeTrainer$Tokens" 110) "java/lang/String" "value" "[B") (.int (Int32.ofNat (0 + k)))) (.int ((sByt.getD 10 []).getD (0 + k) 0))) := by decide +kernel
set_option maxRecDepth 100000 in
theorem st_h11 : sFl[123]? = some (Cond.exactly (Term.string "EyeTrainer$Tokens" 112) "java/lang/String") ∧ sFl[124]? = some (Cond.eq (.field (Term.string "EyeTrainer$Tokens" 112) "java/lang/String" "coder" "B") (.int 0)) ∧ sFl[125]? = some (Cond.arrayOf (.field (Term.string "EyeTrainer$Tokens" 112) "java/lang/String" "value" "[B") .byte) ∧ sFl[126]? = some (Cond.eq (.length (.field (Term.string "EyeTrainer$Tokens" 112) "java/lang/String" "value" "[B")) (.int (Int32.ofNat 4))) := by decide +kernel
set_option maxRecDepth 100000 in
theorem st_e11_0 : ∀ k, k < 4 → sFl[127 + k]? = some (Cond.eq (.elem (.field (Term.string "EyeTrainer$Tokens" 112) "java/lang/String" "value" "[B") (.int (Int32.ofNat (0 + k)))) (.int ((sByt.getD 11 []).getD (0 + k) 0))) := by decide +kernel
set_option maxRecDepth 100000 in
theorem st_h12 : sFl[131]? = some (Cond.exactly (Term.string "EyeTrainer$Tokens" 114) "java/lang/String") ∧ sFl[132]? = some (Cond.eq (.field (Term.string "EyeTrainer$Tokens" 114) "java/lang/String" "coder" "B") (.int 0)) ∧ sFl[133]? = some (Cond.arrayOf (.field (Term.string "EyeTrainer$Tokens" 114) "java/lang/String" "value" "[B") .byte) ∧ sFl[134]? = some (Cond.eq (.length (.field (Term.string "EyeTrainer$Tokens" 114) "java/lang/String" "value" "[B")) (.int (Int32.ofNat 4))) := by decide +kernel
set_option maxRecDepth 100000 in
theorem st_e12_0 : ∀ k, k < 4 → sFl[135 + k]? = some (Cond.eq (.elem (.field (Term.string "EyeTrainer$Tokens" 114) "java/lang/String" "value" "[B") (.int (Int32.ofNat (0 + k)))) (.int ((sByt.getD 12 []).getD (0 + k) 0))) := by decide +kernel
set_option maxRecDepth 100000 in
theorem st_h13 : sFl[139]? = some (Cond.exactly (Term.string "EyeTrainer$Tokens" 116) "java/lang/String") ∧ sFl[140]? = some (Cond.eq (.field (Term.string "EyeTrainer$Tokens" 116) "java/lang/String" "coder" "B") (.int 0)) ∧ sFl[141]? = some (Cond.arrayOf (.field (Term.string "EyeTrainer$Tokens" 116) "java/lang/String" "value" "[B") .byte) ∧ sFl[142]? = some (Cond.eq (.length (.field (Term.string "EyeTrainer$Tokens" 116) "java/lang/String" "value" "[B")) (.int (Int32.ofNat 4))) := by decide +kernel
set_option maxRecDepth 100000 in
theorem st_e13_0 : ∀ k, k < 4 → sFl[143 + k]? = some (Cond.eq (.elem (.field (Term.string "EyeTrainer$Tokens" 116) "java/lang/String" "value" "[B") (.int (Int32.ofNat (0 + k)))) (.int ((sByt.getD 13 []).getD (0 + k) 0))) := by decide +kernel
set_option maxRecDepth 100000 in
theorem st_h14 : sFl[147]? = some (Cond.exactly (Term.string "EyeTrainer$Tokens" 118) "java/lang/String") ∧ sFl[148]? = some (Cond.eq (.field (Term.string "EyeTrainer$Tokens" 118) "java/lang/String" "coder" "B") (.int 0)) ∧ sFl[149]? = some (Cond.arrayOf (.field (Term.string "EyeTrainer$Tokens" 118) "java/lang/String" "value" "[B") .byte) ∧ sFl[150]? = some (Cond.eq (.length (.field (Term.string "EyeTrainer$Tokens" 118) "java/lang/String" "value" "[B")) (.int (Int32.ofNat 4))) := by decide +kernel
set_option maxRecDepth 100000 in
theorem st_e14_0 : ∀ k, k < 4 → sFl[151 + k]? = some (Cond.eq (.elem (.field (Term.string "EyeTrainer$Tokens" 118) "java/lang/String" "value" "[B") (.int (Int32.ofNat (0 + k)))) (.int ((sByt.getD 14 []).getD (0 + k) 0))) := by decide +kernel
set_option maxRecDepth 100000 in
theorem st_h15 : sFl[155]? = some (Cond.exactly (Term.string "EyeTrainer$Tokens" 88) "java/lang/String") ∧ sFl[156]? = some (Cond.eq (.field (Term.string "EyeTrainer$Tokens" 88) "java/lang/String" "coder" "B") (.int 0)) ∧ sFl[157]? = some (Cond.arrayOf (.field (Term.string "EyeTrainer$Tokens" 88) "java/lang/String" "value" "[B") .byte) ∧ sFl[158]? = some (Cond.eq (.length (.field (Term.string "EyeTrainer$Tokens" 88) "java/lang/String" "value" "[B")) (.int (Int32.ofNat 5))) := by decide +kernel
set_option maxRecDepth 100000 in
theorem st_e15_0 : ∀ k, k < 5 → sFl[159 + k]? = some (Cond.eq (.elem (.field (Term.string "EyeTrainer$Tokens" 88) "java/lang/String" "value" "[B") (.int (Int32.ofNat (0 + k)))) (.int ((sByt.getD 15 []).getD (0 + k) 0))) := by decide +kernel
set_option maxRecDepth 100000 in
theorem st_h16 : sFl[164]? = some (Cond.exactly (Term.string "EyeTrainer$Tokens" 90) "java/lang/String") ∧ sFl[165]? = some (Cond.eq (.field (Term.string "EyeTrainer$Tokens" 90) "java/lang/String" "coder" "B") (.int 0)) ∧ sFl[166]? = some (Cond.arrayOf (.field (Term.string "EyeTrainer$Tokens" 90) "java/lang/String" "value" "[B") .byte) ∧ sFl[167]? = some (Cond.eq (.length (.field (Term.string "EyeTrainer$Tokens" 90) "java/lang/String" "value" "[B")) (.int (Int32.ofNat 5))) := by decide +kernel
set_option maxRecDepth 100000 in
theorem st_e16_0 : ∀ k, k < 5 → sFl[168 + k]? = some (Cond.eq (.elem (.field (Term.string "EyeTrainer$Tokens" 90) "java/lang/String" "value" "[B") (.int (Int32.ofNat (0 + k)))) (.int ((sByt.getD 16 []).getD (0 + k) 0))) := by decide +kernel
set_option maxRecDepth 100000 in
theorem st_h17 : sFl[173]? = some (Cond.exactly (Term.string "EyeTrainer$Tokens" 92) "java/lang/String") ∧ sFl[174]? = some (Cond.eq (.field (Term.string "EyeTrainer$Tokens" 92) "java/lang/String" "coder" "B") (.int 0)) ∧ sFl[175]? = some (Cond.arrayOf (.field (Term.string "EyeTrainer$Tokens" 92) "java/lang/String" "value" "[B") .byte) ∧ sFl[176]? = some (Cond.eq (.length (.field (Term.string "EyeTrainer$Tokens" 92) "java/lang/String" "value" "[B")) (.int (Int32.ofNat 5))) := by decide +kernel
set_option maxRecDepth 100000 in
theorem st_e17_0 : ∀ k, k < 5 → sFl[177 + k]? = some (Cond.eq (.elem (.field (Term.string "EyeTrainer$Tokens" 92) "java/lang/String" "value" "[B") (.int (Int32.ofNat (0 + k)))) (.int ((sByt.getD 17 []).getD (0 + k) 0))) := by decide +kernel
set_option maxRecDepth 100000 in
theorem st_h18 : sFl[182]? = some (Cond.exactly (Term.string "EyeTrainer$Tokens" 94) "java/lang/String") ∧ sFl[183]? = some (Cond.eq (.field (Term.string "EyeTrainer$Tokens" 94) "java/lang/String" "coder" "B") (.int 0)) ∧ sFl[184]? = some (Cond.arrayOf (.field (Term.string "EyeTrainer$Tokens" 94) "java/lang/String" "value" "[B") .byte) ∧ sFl[185]? = some (Cond.eq (.length (.field (Term.string "EyeTrainer$Tokens" 94) "java/lang/String" "value" "[B")) (.int (Int32.ofNat 6))) := by decide +kernel
set_option maxRecDepth 100000 in
theorem st_e18_0 : ∀ k, k < 6 → sFl[186 + k]? = some (Cond.eq (.elem (.field (Term.string "EyeTrainer$Tokens" 94) "java/lang/String" "value" "[B") (.int (Int32.ofNat (0 + k)))) (.int ((sByt.getD 18 []).getD (0 + k) 0))) := by decide +kernel
set_option maxRecDepth 100000 in
theorem st_h19 : sFl[192]? = some (Cond.exactly (Term.string "EyeTrainer$Tokens" 96) "java/lang/String") ∧ sFl[193]? = some (Cond.eq (.field (Term.string "EyeTrainer$Tokens" 96) "java/lang/String" "coder" "B") (.int 0)) ∧ sFl[194]? = some (Cond.arrayOf (.field (Term.string "EyeTrainer$Tokens" 96) "java/lang/String" "value" "[B") .byte) ∧ sFl[195]? = some (Cond.eq (.length (.field (Term.string "EyeTrainer$Tokens" 96) "java/lang/String" "value" "[B")) (.int (Int32.ofNat 6))) := by decide +kernel
set_option maxRecDepth 100000 in
theorem st_e19_0 : ∀ k, k < 6 → sFl[196 + k]? = some (Cond.eq (.elem (.field (Term.string "EyeTrainer$Tokens" 96) "java/lang/String" "value" "[B") (.int (Int32.ofNat (0 + k)))) (.int ((sByt.getD 19 []).getD (0 + k) 0))) := by decide +kernel
set_option maxRecDepth 100000 in
theorem st_h20 : sFl[202]? = some (Cond.exactly (Term.string "EyeTrainer$Tokens" 98) "java/lang/String") ∧ sFl[203]? = some (Cond.eq (.field (Term.string "EyeTrainer$Tokens" 98) "java/lang/String" "coder" "B") (.int 0)) ∧ sFl[204]? = some (Cond.arrayOf (.field (Term.string "EyeTrainer$Tokens" 98) "java/lang/String" "value" "[B") .byte) ∧ sFl[205]? = some (Cond.eq (.length (.field (Term.string "EyeTrainer$Tokens" 98) "java/lang/String" "value" "[B")) (.int (Int32.ofNat 6))) := by decide +kernel
set_option maxRecDepth 100000 in
theorem st_e20_0 : ∀ k, k < 6 → sFl[206 + k]? = some (Cond.eq (.elem (.field (Term.string "EyeTrainer$Tokens" 98) "java/lang/String" "value" "[B") (.int (Int32.ofNat (0 + k)))) (.int ((sByt.getD 20 []).getD (0 + k) 0))) := by decide +kernel
set_option maxRecDepth 100000 in
theorem st_h21 : sFl[212]? = some (Cond.exactly (Term.string "EyeTrainer$Tokens" 100) "java/lang/String") ∧ sFl[213]? = some (Cond.eq (.field (Term.string "EyeTrainer$Tokens" 100) "java/lang/String" "coder" "B") (.int 0)) ∧ sFl[214]? = some (Cond.arrayOf (.field (Term.string "EyeTrainer$Tokens" 100) "java/lang/String" "value" "[B") .byte) ∧ sFl[215]? = some (Cond.eq (.length (.field (Term.string "EyeTrainer$Tokens" 100) "java/lang/String" "value" "[B")) (.int (Int32.ofNat 6))) := by decide +kernel
set_option maxRecDepth 100000 in
theorem st_e21_0 : ∀ k, k < 6 → sFl[216 + k]? = some (Cond.eq (.elem (.field (Term.string "EyeTrainer$Tokens" 100) "java/lang/String" "value" "[B") (.int (Int32.ofNat (0 + k)))) (.int ((sByt.getD 21 []).getD (0 + k) 0))) := by decide +kernel
set_option maxRecDepth 100000 in
theorem st_h22 : sFl[222]? = some (Cond.exactly (Term.string "EyeTrainer$Tokens" 102) "java/lang/String") ∧ sFl[223]? = some (Cond.eq (.field (Term.string "EyeTrainer$Tokens" 102) "java/lang/String" "coder" "B") (.int 0)) ∧ sFl[224]? = some (Cond.arrayOf (.field (Term.string "EyeTrainer$Tokens" 102) "java/lang/String" "value" "[B") .byte) ∧ sFl[225]? = some (Cond.eq (.length (.field (Term.string "EyeTrainer$Tokens" 102) "java/lang/String" "value" "[B")) (.int (Int32.ofNat 7))) := by decide +kernel
set_option maxRecDepth 100000 in
theorem st_e22_0 : ∀ k, k < 7 → sFl[226 + k]? = some (Cond.eq (.elem (.field (Term.string "EyeTrainer$Tokens" 102) "java/lang/String" "value" "[B") (.int (Int32.ofNat (0 + k)))) (.int ((sByt.getD 22 []).getD (0 + k) 0))) := by decide +kernel
set_option maxRecDepth 100000 in
theorem st_h23 : sFl[233]? = some (Cond.exactly (Term.string "EyeTrainer$Tokens" 55) "java/lang/String") ∧ sFl[234]? = some (Cond.eq (.field (Term.string "EyeTrainer$Tokens" 55) "java/lang/String" "coder" "B") (.int 0)) ∧ sFl[235]? = some (Cond.arrayOf (.field (Term.string "EyeTrainer$Tokens" 55) "java/lang/String" "value" "[B") .byte) ∧ sFl[236]? = some (Cond.eq (.length (.field (Term.string "EyeTrainer$Tokens" 55) "java/lang/String" "value" "[B")) (.int (Int32.ofNat 12))) := by decide +kernel
set_option maxRecDepth 100000 in
theorem st_e23_0 : ∀ k, k < 12 → sFl[237 + k]? = some (Cond.eq (.elem (.field (Term.string "EyeTrainer$Tokens" 55) "java/lang/String" "value" "[B") (.int (Int32.ofNat (0 + k)))) (.int ((sByt.getD 23 []).getD (0 + k) 0))) := by decide +kernel
set_option maxRecDepth 100000 in
theorem st_h24 : sFl[249]? = some (Cond.exactly (Term.string "EyeTrainerModel" 83) "java/lang/String") ∧ sFl[250]? = some (Cond.eq (.field (Term.string "EyeTrainerModel" 83) "java/lang/String" "coder" "B") (.int 0)) ∧ sFl[251]? = some (Cond.arrayOf (.field (Term.string "EyeTrainerModel" 83) "java/lang/String" "value" "[B") .byte) ∧ sFl[252]? = some (Cond.eq (.length (.field (Term.string "EyeTrainerModel" 83) "java/lang/String" "value" "[B")) (.int (Int32.ofNat 120))) := by decide +kernel
set_option maxRecDepth 100000 in
theorem st_e24_0 : ∀ k, k < 20 → sFl[253 + k]? = some (Cond.eq (.elem (.field (Term.string "EyeTrainerModel" 83) "java/lang/String" "value" "[B") (.int (Int32.ofNat (0 + k)))) (.int ((sByt.getD 24 []).getD (0 + k) 0))) := by decide +kernel
set_option maxRecDepth 100000 in
theorem st_e24_20 : ∀ k, k < 20 → sFl[273 + k]? = some (Cond.eq (.elem (.field (Term.string "EyeTrainerModel" 83) "java/lang/String" "value" "[B") (.int (Int32.ofNat (20 + k)))) (.int ((sByt.getD 24 []).getD (20 + k) 0))) := by decide +kernel
set_option maxRecDepth 100000 in
theorem st_e24_40 : ∀ k, k < 20 → sFl[293 + k]? = some (Cond.eq (.elem (.field (Term.string "EyeTrainerModel" 83) "java/lang/String" "value" "[B") (.int (Int32.ofNat (40 + k)))) (.int ((sByt.getD 24 []).getD (40 + k) 0))) := by decide +kernel
set_option maxRecDepth 100000 in
theorem st_e24_60 : ∀ k, k < 20 → sFl[313 + k]? = some (Cond.eq (.elem (.field (Term.string "EyeTrainerModel" 83) "java/lang/String" "value" "[B") (.int (Int32.ofNat (60 + k)))) (.int ((sByt.getD 24 []).getD (60 + k) 0))) := by decide +kernel
set_option maxRecDepth 100000 in
theorem st_e24_80 : ∀ k, k < 20 → sFl[333 + k]? = some (Cond.eq (.elem (.field (Term.string "EyeTrainerModel" 83) "java/lang/String" "value" "[B") (.int (Int32.ofNat (80 + k)))) (.int ((sByt.getD 24 []).getD (80 + k) 0))) := by decide +kernel
set_option maxRecDepth 100000 in
theorem st_e24_100 : ∀ k, k < 20 → sFl[353 + k]? = some (Cond.eq (.elem (.field (Term.string "EyeTrainerModel" 83) "java/lang/String" "value" "[B") (.int (Int32.ofNat (100 + k)))) (.int ((sByt.getD 24 []).getD (100 + k) 0))) := by decide +kernel
theorem st_hd : ∀ i, i < 25 → (Cond.exactly (sT i) "java/lang/String") ∈ sFl ∧ (Cond.eq (.field (sT i) "java/lang/String" "coder" "B") (.int 0)) ∈ sFl ∧ (Cond.arrayOf (.field (sT i) "java/lang/String" "value" "[B") .byte) ∈ sFl ∧ (Cond.eq (.length (.field (sT i) "java/lang/String" "value" "[B")) (.int (Int32.ofNat (sLen.getD i 0)))) ∈ sFl := by
  intro i hi
  match i, hi with
  | 0, _ => exact ⟨List.mem_of_getElem? st_h0.1, List.mem_of_getElem? st_h0.2.1, List.mem_of_getElem? st_h0.2.2.1, List.mem_of_getElem? st_h0.2.2.2⟩
  | 1, _ => exact ⟨List.mem_of_getElem? st_h1.1, List.mem_of_getElem? st_h1.2.1, List.mem_of_getElem? st_h1.2.2.1, List.mem_of_getElem? st_h1.2.2.2⟩
  | 2, _ => exact ⟨List.mem_of_getElem? st_h2.1, List.mem_of_getElem? st_h2.2.1, List.mem_of_getElem? st_h2.2.2.1, List.mem_of_getElem? st_h2.2.2.2⟩
  | 3, _ => exact ⟨List.mem_of_getElem? st_h3.1, List.mem_of_getElem? st_h3.2.1, List.mem_of_getElem? st_h3.2.2.1, List.mem_of_getElem? st_h3.2.2.2⟩
  | 4, _ => exact ⟨List.mem_of_getElem? st_h4.1, List.mem_of_getElem? st_h4.2.1, List.mem_of_getElem? st_h4.2.2.1, List.mem_of_getElem? st_h4.2.2.2⟩
  | 5, _ => exact ⟨List.mem_of_getElem? st_h5.1, List.mem_of_getElem? st_h5.2.1, List.mem_of_getElem? st_h5.2.2.1, List.mem_of_getElem? st_h5.2.2.2⟩
  | 6, _ => exact ⟨List.mem_of_getElem? st_h6.1, List.mem_of_getElem? st_h6.2.1, List.mem_of_getElem? st_h6.2.2.1, List.mem_of_getElem? st_h6.2.2.2⟩
  | 7, _ => exact ⟨List.mem_of_getElem? st_h7.1, List.mem_of_getElem? st_h7.2.1, List.mem_of_getElem? st_h7.2.2.1, List.mem_of_getElem? st_h7.2.2.2⟩
  | 8, _ => exact ⟨List.mem_of_getElem? st_h8.1, List.mem_of_getElem? st_h8.2.1, List.mem_of_getElem? st_h8.2.2.1, List.mem_of_getElem? st_h8.2.2.2⟩
  | 9, _ => exact ⟨List.mem_of_getElem? st_h9.1, List.mem_of_getElem? st_h9.2.1, List.mem_of_getElem? st_h9.2.2.1, List.mem_of_getElem? st_h9.2.2.2⟩
  | 10, _ => exact ⟨List.mem_of_getElem? st_h10.1, List.mem_of_getElem? st_h10.2.1, List.mem_of_getElem? st_h10.2.2.1, List.mem_of_getElem? st_h10.2.2.2⟩
  | 11, _ => exact ⟨List.mem_of_getElem? st_h11.1, List.mem_of_getElem? st_h11.2.1, List.mem_of_getElem? st_h11.2.2.1, List.mem_of_getElem? st_h11.2.2.2⟩
  | 12, _ => exact ⟨List.mem_of_getElem? st_h12.1, List.mem_of_getElem? st_h12.2.1, List.mem_of_getElem? st_h12.2.2.1, List.mem_of_getElem? st_h12.2.2.2⟩
  | 13, _ => exact ⟨List.mem_of_getElem? st_h13.1, List.mem_of_getElem? st_h13.2.1, List.mem_of_getElem? st_h13.2.2.1, List.mem_of_getElem? st_h13.2.2.2⟩
  | 14, _ => exact ⟨List.mem_of_getElem? st_h14.1, List.mem_of_getElem? st_h14.2.1, List.mem_of_getElem? st_h14.2.2.1, List.mem_of_getElem? st_h14.2.2.2⟩
  | 15, _ => exact ⟨List.mem_of_getElem? st_h15.1, List.mem_of_getElem? st_h15.2.1, List.mem_of_getElem? st_h15.2.2.1, List.mem_of_getElem? st_h15.2.2.2⟩
  | 16, _ => exact ⟨List.mem_of_getElem? st_h16.1, List.mem_of_getElem? st_h16.2.1, List.mem_of_getElem? st_h16.2.2.1, List.mem_of_getElem? st_h16.2.2.2⟩
  | 17, _ => exact ⟨List.mem_of_getElem? st_h17.1, List.mem_of_getElem? st_h17.2.1, List.mem_of_getElem? st_h17.2.2.1, List.mem_of_getElem? st_h17.2.2.2⟩
  | 18, _ => exact ⟨List.mem_of_getElem? st_h18.1, List.mem_of_getElem? st_h18.2.1, List.mem_of_getElem? st_h18.2.2.1, List.mem_of_getElem? st_h18.2.2.2⟩
  | 19, _ => exact ⟨List.mem_of_getElem? st_h19.1, List.mem_of_getElem? st_h19.2.1, List.mem_of_getElem? st_h19.2.2.1, List.mem_of_getElem? st_h19.2.2.2⟩
  | 20, _ => exact ⟨List.mem_of_getElem? st_h20.1, List.mem_of_getElem? st_h20.2.1, List.mem_of_getElem? st_h20.2.2.1, List.mem_of_getElem? st_h20.2.2.2⟩
  | 21, _ => exact ⟨List.mem_of_getElem? st_h21.1, List.mem_of_getElem? st_h21.2.1, List.mem_of_getElem? st_h21.2.2.1, List.mem_of_getElem? st_h21.2.2.2⟩
  | 22, _ => exact ⟨List.mem_of_getElem? st_h22.1, List.mem_of_getElem? st_h22.2.1, List.mem_of_getElem? st_h22.2.2.1, List.mem_of_getElem? st_h22.2.2.2⟩
  | 23, _ => exact ⟨List.mem_of_getElem? st_h23.1, List.mem_of_getElem? st_h23.2.1, List.mem_of_getElem? st_h23.2.2.1, List.mem_of_getElem? st_h23.2.2.2⟩
  | 24, _ => exact ⟨List.mem_of_getElem? st_h24.1, List.mem_of_getElem? st_h24.2.1, List.mem_of_getElem? st_h24.2.2.1, List.mem_of_getElem? st_h24.2.2.2⟩
  | i + 25, h => omega
theorem st_el : ∀ i, i < 25 → ∀ j, j < sLen.getD i 0 → (Cond.eq (.elem (.field (sT i) "java/lang/String" "value" "[B") (.int (Int32.ofNat j))) (.int ((sByt.getD i []).getD j 0))) ∈ sFl := by
  intro i hi
  match i, hi with
  | 0, _ =>
    intro j hj
    have hj : j < 2 := hj
    by_cases h0 : j < 2
    · have := st_e0_0 (j - 0) (by omega)
      rw [show 0 + (j - 0) = j by omega] at this
      exact List.mem_of_getElem? this
    omega
  | 1, _ =>
    intro j hj
    have hj : j < 2 := hj
    by_cases h0 : j < 2
    · have := st_e1_0 (j - 0) (by omega)
      rw [show 0 + (j - 0) = j by omega] at this
      exact List.mem_of_getElem? this
    omega
  | 2, _ =>
    intro j hj
    have hj : j < 2 := hj
    by_cases h0 : j < 2
    · have := st_e2_0 (j - 0) (by omega)
      rw [show 0 + (j - 0) = j by omega] at this
      exact List.mem_of_getElem? this
    omega
  | 3, _ =>
    intro j hj
    have hj : j < 3 := hj
    by_cases h0 : j < 3
    · have := st_e3_0 (j - 0) (by omega)
      rw [show 0 + (j - 0) = j by omega] at this
      exact List.mem_of_getElem? this
    omega
  | 4, _ =>
    intro j hj
    have hj : j < 3 := hj
    by_cases h0 : j < 3
    · have := st_e4_0 (j - 0) (by omega)
      rw [show 0 + (j - 0) = j by omega] at this
      exact List.mem_of_getElem? this
    omega
  | 5, _ =>
    intro j hj
    have hj : j < 3 := hj
    by_cases h0 : j < 3
    · have := st_e5_0 (j - 0) (by omega)
      rw [show 0 + (j - 0) = j by omega] at this
      exact List.mem_of_getElem? this
    omega
  | 6, _ =>
    intro j hj
    have hj : j < 3 := hj
    by_cases h0 : j < 3
    · have := st_e6_0 (j - 0) (by omega)
      rw [show 0 + (j - 0) = j by omega] at this
      exact List.mem_of_getElem? this
    omega
  | 7, _ =>
    intro j hj
    have hj : j < 4 := hj
    by_cases h0 : j < 4
    · have := st_e7_0 (j - 0) (by omega)
      rw [show 0 + (j - 0) = j by omega] at this
      exact List.mem_of_getElem? this
    omega
  | 8, _ =>
    intro j hj
    have hj : j < 4 := hj
    by_cases h0 : j < 4
    · have := st_e8_0 (j - 0) (by omega)
      rw [show 0 + (j - 0) = j by omega] at this
      exact List.mem_of_getElem? this
    omega
  | 9, _ =>
    intro j hj
    have hj : j < 4 := hj
    by_cases h0 : j < 4
    · have := st_e9_0 (j - 0) (by omega)
      rw [show 0 + (j - 0) = j by omega] at this
      exact List.mem_of_getElem? this
    omega
  | 10, _ =>
    intro j hj
    have hj : j < 4 := hj
    by_cases h0 : j < 4
    · have := st_e10_0 (j - 0) (by omega)
      rw [show 0 + (j - 0) = j by omega] at this
      exact List.mem_of_getElem? this
    omega
  | 11, _ =>
    intro j hj
    have hj : j < 4 := hj
    by_cases h0 : j < 4
    · have := st_e11_0 (j - 0) (by omega)
      rw [show 0 + (j - 0) = j by omega] at this
      exact List.mem_of_getElem? this
    omega
  | 12, _ =>
    intro j hj
    have hj : j < 4 := hj
    by_cases h0 : j < 4
    · have := st_e12_0 (j - 0) (by omega)
      rw [show 0 + (j - 0) = j by omega] at this
      exact List.mem_of_getElem? this
    omega
  | 13, _ =>
    intro j hj
    have hj : j < 4 := hj
    by_cases h0 : j < 4
    · have := st_e13_0 (j - 0) (by omega)
      rw [show 0 + (j - 0) = j by omega] at this
      exact List.mem_of_getElem? this
    omega
  | 14, _ =>
    intro j hj
    have hj : j < 4 := hj
    by_cases h0 : j < 4
    · have := st_e14_0 (j - 0) (by omega)
      rw [show 0 + (j - 0) = j by omega] at this
      exact List.mem_of_getElem? this
    omega
  | 15, _ =>
    intro j hj
    have hj : j < 5 := hj
    by_cases h0 : j < 5
    · have := st_e15_0 (j - 0) (by omega)
      rw [show 0 + (j - 0) = j by omega] at this
      exact List.mem_of_getElem? this
    omega
  | 16, _ =>
    intro j hj
    have hj : j < 5 := hj
    by_cases h0 : j < 5
    · have := st_e16_0 (j - 0) (by omega)
      rw [show 0 + (j - 0) = j by omega] at this
      exact List.mem_of_getElem? this
    omega
  | 17, _ =>
    intro j hj
    have hj : j < 5 := hj
    by_cases h0 : j < 5
    · have := st_e17_0 (j - 0) (by omega)
      rw [show 0 + (j - 0) = j by omega] at this
      exact List.mem_of_getElem? this
    omega
  | 18, _ =>
    intro j hj
    have hj : j < 6 := hj
    by_cases h0 : j < 6
    · have := st_e18_0 (j - 0) (by omega)
      rw [show 0 + (j - 0) = j by omega] at this
      exact List.mem_of_getElem? this
    omega
  | 19, _ =>
    intro j hj
    have hj : j < 6 := hj
    by_cases h0 : j < 6
    · have := st_e19_0 (j - 0) (by omega)
      rw [show 0 + (j - 0) = j by omega] at this
      exact List.mem_of_getElem? this
    omega
  | 20, _ =>
    intro j hj
    have hj : j < 6 := hj
    by_cases h0 : j < 6
    · have := st_e20_0 (j - 0) (by omega)
      rw [show 0 + (j - 0) = j by omega] at this
      exact List.mem_of_getElem? this
    omega
  | 21, _ =>
    intro j hj
    have hj : j < 6 := hj
    by_cases h0 : j < 6
    · have := st_e21_0 (j - 0) (by omega)
      rw [show 0 + (j - 0) = j by omega] at this
      exact List.mem_of_getElem? this
    omega
  | 22, _ =>
    intro j hj
    have hj : j < 7 := hj
    by_cases h0 : j < 7
    · have := st_e22_0 (j - 0) (by omega)
      rw [show 0 + (j - 0) = j by omega] at this
      exact List.mem_of_getElem? this
    omega
  | 23, _ =>
    intro j hj
    have hj : j < 12 := hj
    by_cases h0 : j < 12
    · have := st_e23_0 (j - 0) (by omega)
      rw [show 0 + (j - 0) = j by omega] at this
      exact List.mem_of_getElem? this
    omega
  | 24, _ =>
    intro j hj
    have hj : j < 120 := hj
    by_cases h0 : j < 20
    · have := st_e24_0 (j - 0) (by omega)
      rw [show 0 + (j - 0) = j by omega] at this
      exact List.mem_of_getElem? this
    by_cases h20 : j < 40
    · have := st_e24_20 (j - 20) (by omega)
      rw [show 20 + (j - 20) = j by omega] at this
      exact List.mem_of_getElem? this
    by_cases h40 : j < 60
    · have := st_e24_40 (j - 40) (by omega)
      rw [show 40 + (j - 40) = j by omega] at this
      exact List.mem_of_getElem? this
    by_cases h60 : j < 80
    · have := st_e24_60 (j - 60) (by omega)
      rw [show 60 + (j - 60) = j by omega] at this
      exact List.mem_of_getElem? this
    by_cases h80 : j < 100
    · have := st_e24_80 (j - 80) (by omega)
      rw [show 80 + (j - 80) = j by omega] at this
      exact List.mem_of_getElem? this
    by_cases h100 : j < 120
    · have := st_e24_100 (j - 100) (by omega)
      rw [show 100 + (j - 100) = j by omega] at this
      exact List.mem_of_getElem? this
    omega
  | i + 25, h => omega
theorem st_sm : ∀ i, i < 25 → sLen.getD i 0 < 2 ^ 31 := by decide +kernel
theorem st_df : ∀ i, i < 25 → ∀ j, j < 25 → i = j ∨ sLen.getD i 0 ≠ sLen.getD j 0 ∨ ((List.range (sLen.getD i 0)).any fun k => decide ((sByt.getD i []).getD k 0 ≠ (sByt.getD j []).getD k 0)) = true := by decide +kernel
/-- the String constants' objects -/
theorem st_of {args : Array Value} {s : State} {A : Nat → Prop} (h : (Jvm.Cond.and given_1 narrow_1).before args s = true) (hA : ∀ a : Nat, a < s.heap.size → ¬ A a) : ∃ adK adV : Nat → Nat, vk_S 25 sLen sByt adK adV A s s.heap ∧ ∀ i : Nat, i < 25 → (sT i).eval args s none [] s = some (.ref (adK i)) := by
  have hs := flat_of_before _ h
  have h0 : ∀ i : Nat, ∃ q : Nat × Nat, i < 25 → (sT i).eval args s none [] s = some (.ref q.1) ∧ va_O "java/lang/String" q.1 A s s.heap ∧ va_OF "java/lang/String" "coder" "B" (.int 0) q.1 A s s.heap ∧ va_OF "java/lang/String" "value" "[B" (.ref q.2) q.1 A s s.heap ∧ va_T .byte q.2 (sLen.getD i 0) (fun j => .int ((sByt.getD i []).getD j 0)) A s s.heap := by
    intro i
    by_cases hi : i < 25
    · obtain ⟨adK, adV, h1, h2⟩ := vk_Sof (args := args) (s := s) (N := 1) (tm := fun _ => sT i) (len := [sLen.getD i 0]) (byt := [sByt.getD i []]) (A := A)
        (fun k hk => by obtain rfl : k = 0 := by omega
                        exact st_sm i hi)
        (fun k hk => hs _ (st_hd i hi).1) (fun k hk => hs _ (st_hd i hi).2.1) (fun k hk => hs _ (st_hd i hi).2.2.1)
        (fun k hk => by obtain rfl : k = 0 := by omega
                        exact hs _ (st_hd i hi).2.2.2)
        (fun k hk => by obtain rfl : k = 0 := by omega
                        exact fun j hj => hs _ (st_el i hi j hj))
        (fun k j hk hj hne => absurd (show k = j by omega) hne) hA
      have h3 := h1.1 0 (by omega)
      exact ⟨(adK 0, adV 0), fun _ => ⟨h2 0 (by omega), h3⟩⟩
    · exact ⟨(0, 0), fun h => absurd h hi⟩
  obtain ⟨ad, had⟩ := Classical.axiomOfChoice h0
  refine ⟨fun i => (ad i).1, fun i => (ad i).2, ⟨fun i hi => (had i hi).2, fun i j hi hj e => ?_⟩, fun i hi => (had i hi).1⟩
  obtain ⟨-, -, -, ⟨cf, k, fi, f, cell, g1, g2, g3, g4, g5, g6⟩, ⟨c1, t1, t2, t3, t4, t5, t6, t7⟩⟩ := had i hi
  obtain ⟨-, -, -, ⟨cf', k', fi', f', cell', g1', g2', g3', g4', g5', g6'⟩, ⟨c1', t1', t2', t3', t4', t5', t6', t7'⟩⟩ := had j hj
  dsimp only at e
  rw [g1] at g1'
  simp only [Option.some.injEq, Prod.mk.injEq] at g1'
  obtain ⟨-, -, -, rfl⟩ := g1'
  rw [← e, g3] at g3'
  cases g3'
  rw [g5] at g5'
  have hV : (ad i).2 = (ad j).2 := by injection g5' with g5'; injection g5'
  rw [← hV, t1] at t1'
  cases t1'
  rw [t5] at t5'
  have hlen : sLen.getD i 0 = sLen.getD j 0 := (nI_eq (st_sm i hi) (st_sm j hj)).mp t5'
  rcases st_df i hi j hj with h | h | h
  · exact h
  · exact absurd hlen h
  · obtain ⟨q, hq1, hq2⟩ := List.any_eq_true.mp h
    have hq := List.mem_range.mp hq1
    have e1 := t6 q hq
    have e2 := t6' q (by omega)
    rw [e1] at e2
    have e3 : (sByt.getD i []).getD q 0 = (sByt.getD j []).getD q 0 := by injection e2 with e2; injection e2
    simp only [decide_eq_true_eq] at hq2
    exact absurd e3 hq2
set_option maxRecDepth 100000 in
theorem st_ref : ∀ q ∈ sCon, Cond.stringRef q.1 q.2.1 q.2.2.1 ∈ lw_tbl := by decide +kernel
theorem st_two : ∀ q ∈ sCon, q.2.2.2 < 25 ∧ ((Term.string q.1 q.2.1 = sT q.2.2.2) ∨ (q.1 = "EyeTrainerModel" ∧ q.2.1 = 121 ∧ q.2.2.2 = 23)) := by decide +kernel
set_option maxRecDepth 100000 in
theorem st_one : Cond.eq (Term.string "EyeTrainer$Tokens" 55) (Term.string "EyeTrainerModel" 121) ∈ sFl := List.mem_of_getElem? (i := 389) (by decide +kernel)
set_option maxRecDepth 100000 in
theorem st_Z : Cond.eq (.static "java/lang/String" "COMPACT_STRINGS" "Z") (.int 1) ∈ flatC (Jvm.Cond.and given_1 narrow_1) ∧ Cond.isRef (.static "jdk/internal/util/Preconditions" "SIOOBE_FORMATTER" "Ljava/util/function/BiFunction;") ∈ flatC (Jvm.Cond.and given_1 narrow_1) := by decide +kernel
set_option maxRecDepth 100000 in
theorem st_Zw : Cond.laysStatic "java/lang/String" "COMPACT_STRINGS" "Z" ∈ lw_tbl ∧ Cond.laysStatic "jdk/internal/util/Preconditions" "SIOOBE_FORMATTER" "Ljava/util/function/BiFunction;" ∈ lw_tbl ∧ Cond.initialized "java/lang/String" ∈ lw_tbl ∧ Cond.initialized "jdk/internal/util/Preconditions" ∈ lw_tbl ∧ Cond.arrayClass .byte ∈ lw_tbl ∧ Cond.arrayClass .int ∈ lw_tbl ∧ Cond.arrayClass .long ∈ lw_tbl ∧ Cond.arrayClass .boolean ∈ lw_tbl ∧ Cond.arrayOver (.object "EyeTrainer$Image") ∈ lw_tbl ∧ Cond.arrayOver (.object "EyeTrainer$Stand") ∈ lw_tbl ∧ Cond.arrayOver (.object "EyeTrainer$Tray") ∈ lw_tbl := by decide +kernel
set_option maxRecDepth 100000 in
theorem st_in : Cond.instantiable RX1 1 ∈ lw_tbl ∧ Cond.instantiable RX2 2 ∈ lw_tbl ∧ Cond.instantiable RX3 13 ∈ lw_tbl ∧ Cond.instantiable RX4 2 ∈ lw_tbl ∧ Cond.instantiable RX5 6 ∈ lw_tbl ∧ Cond.instantiable RX6 8 ∈ lw_tbl ∧ Cond.instantiable RX7 14 ∈ lw_tbl ∧ Cond.instantiable RX8 3 ∈ lw_tbl ∧ Cond.instantiable RX9 4 ∈ lw_tbl ∧ Cond.instantiable RX10 3 ∈ lw_tbl ∧ Cond.instantiable RX11 14 ∈ lw_tbl ∧ Cond.instantiable RX12 43 ∈ lw_tbl := by decide +kernel
/-- an array class of numbers, by its word -/
theorem ac_of {args : Array Value} {s : State} {ty : FieldType} (hp : ∀ C, ty ≠ .object C) (h : (Cond.arrayClass ty).before args s = true) : ∃ cA : ClassId, ArrOfT s cA ty ∧ va_RA s cA ty := by
  obtain ⟨c, k, comp, h1, h2, h3⟩ := Cond.arrayClass_spec (args := args) (first := s) (o := none) (s := s) (idx := []) h
  refine ⟨c, fun n z => ⟨fun k h => (by cases h), k, h2, comp, h3⟩, ?_⟩
  cases ty with
  | object C => exact absurd rfl (hp C)
  | _ => exact h1
theorem ao_of {args : Array Value} {s : State} {C : String} (h : (Cond.arrayOver (.object C)).before args s = true) : ∃ cA : ClassId, ArrOfT s cA (.object C) ∧ va_RA s cA (.object C) := by
  obtain ⟨comp, c, k, h1, h2, h3, h4, h5⟩ := Cond.arrayOver_spec (args := args) (first := s) (o := none) (s := s) (idx := []) h
  exact ⟨c, fun n z => ⟨fun k h => (by cases h), k, h3, comp, h4⟩, k, comp, h3, h4, h1, h5⟩
/-- the empty state of our heap -/
def T00 (t : Nat) : Sh := (t, 0, fun _ => 99, fun _ => 0)
def M00 : Me := (fun _ _ => 0, fun _ _ => 0, fun _ _ => none)
set_option maxHeartbeats 4000000 in
theorem whole_of (H : ∀ (t L : Nat) (xs : Nat → Int32), L ≤ 3072 → ∃ (r : Int32) (T' : Sh) (M' : Me), fL_law L xs (T00 t) M00 = some (r, T', M') ∧ tp T' ≤ t + 600000 ∧ sl T' ≤ 7302250) {p : Program} {e : Env} {s : State} {m : MethodId} {below : List Frame} {meth : Method} {c : Code} (l : Launch) {b L : Nat} {xs : Nat → Int32} (hL : L ≤ 3072) (C0 : lw_At p s m meth c b L xs) : W p l e room_1 s m #[Value.ref b] below meth c s.heap [] 0 0 (lw_Z below #[Value.ref b] s) (entryFrame m ([Value.ref b] : List Value).toArray 4) := by
  obtain ⟨hx, hb, hr, hml, hown, hts, hX, hbl, hlocks, hgv⟩ := C0
  obtain ⟨r, T', M', hf, hz1, hz2⟩ := H s.heap.size L xs hL
  have hA : ∀ a : Nat, a < s.heap.size → ¬ s.heap.size ≤ a := fun a h => Nat.not_le.mpr h
  have hs := flat_of_before _ hgv
  obtain ⟨adK, adV, hstr, hev⟩ := st_of (A := fun q => s.heap.size ≤ q) hgv hA
  obtain ⟨z1, z2, z3, z4, z5, z6, z7, z8, z9, z10, z11⟩ := st_Zw
  have hZ1 := va_Zof (A := fun q => s.heap.size ≤ q) (hts _ z1) (hts _ z3) (va_eqi (hs _ st_Z.1)) hA
  have hZ2 := va_Zqof (A := fun q => s.heap.size ≤ q) (hts _ z2) (hts _ z4) (hs _ st_Z.2) hA
  obtain ⟨c12, a12⟩ := ac_of (by intro C h; cases h) (hts _ z5)
  obtain ⟨c13, a13⟩ := ac_of (by intro C h; cases h) (hts _ z6)
  obtain ⟨c14, a14⟩ := ac_of (by intro C h; cases h) (hts _ z7)
  obtain ⟨c15, a15⟩ := ac_of (by intro C h; cases h) (hts _ z8)
  obtain ⟨c16, a16⟩ := ao_of (hts _ z9)
  obtain ⟨c17, a17⟩ := ao_of (hts _ z10)
  obtain ⟨c18, a18⟩ := ao_of (hts _ z11)
  obtain ⟨n0, n1, n2, n3, n4, n5, n6, n7, n8, n9, n10, n11⟩ := st_in
  obtain ⟨k0, iS0, hKn0⟩ := u_known (C := RX1) (T := TX1) (N := 1) (n := 1) hts (fun w h => gd_tbl (inX1 w h)) (hts _ n0)
  obtain ⟨k1, iS1, hKn1⟩ := u_known (C := RX2) (T := TX2) (N := 2) (n := 2) hts (fun w h => gd_tbl (inX2 w h)) (hts _ n1)
  obtain ⟨k2, iS2, hKn2⟩ := u_known (C := RX3) (T := TX3) (N := 13) (n := 13) hts (fun w h => gd_tbl (inX3 w h)) (hts _ n2)
  obtain ⟨k3, iS3, hKn3⟩ := u_known (C := RX4) (T := TX4) (N := 2) (n := 2) hts (fun w h => gd_tbl (inX4 w h)) (hts _ n3)
  obtain ⟨k4, iS4, hKn4⟩ := u_known (C := RX5) (T := TX5) (N := 6) (n := 6) hts (fun w h => gd_tbl (inX5 w h)) (hts _ n4)
  obtain ⟨k5, iS5, hKn5⟩ := u_known (C := RX6) (T := TX6) (N := 8) (n := 8) hts (fun w h => gd_tbl (inX6 w h)) (hts _ n5)
  obtain ⟨k6, iS6, hKn6⟩ := u_known (C := RX7) (T := TX7) (N := 14) (n := 14) hts (fun w h => gd_tbl (inX7 w h)) (hts _ n6)
  obtain ⟨k7, iS7, hKn7⟩ := u_known (C := RX8) (T := TX8) (N := 3) (n := 3) hts (fun w h => gd_tbl (inX8 w h)) (hts _ n7)
  obtain ⟨k8, iS8, hKn8⟩ := u_known (C := RX9) (T := TX9) (N := 4) (n := 4) hts (fun w h => gd_tbl (inX9 w h)) (hts _ n8)
  obtain ⟨k9, iS9, hKn9⟩ := u_known (C := RX10) (T := TX10) (N := 3) (n := 3) hts (fun w h => gd_tbl (inX10 w h)) (hts _ n9)
  obtain ⟨k10, iS10, hKn10⟩ := u_known (C := RX11) (T := TX11) (N := 14) (n := 14) hts (fun w h => gd_tbl (inX11 w h)) (hts _ n10)
  obtain ⟨k11, iS11, hKn11⟩ := u_known (C := RX12) (T := TX12) (N := 43) (n := 43) hts (fun w h => gd_tbl (inX12 w h)) (hts _ n11)
  obtain ⟨dC, dI, hKc⟩ : ∃ (dC : Nat → ClassId) (dI : Nat → Nat → Nat), ∀ (k : Nat) (q : vw_C), kCl[k]? = some q → u_Kn s q.1 q.2.1 q.2.2 (dC k) (dI k) := by
    refine ⟨fun k => match k with
      | 0 => k0
      | 1 => k1
      | 2 => k2
      | 3 => k3
      | 4 => k4
      | 5 => k5
      | 6 => k6
      | 7 => k7
      | 8 => k8
      | 9 => k9
      | 10 => k10
      | _ => k11, fun k => match k with
      | 0 => iS0
      | 1 => iS1
      | 2 => iS2
      | 3 => iS3
      | 4 => iS4
      | 5 => iS5
      | 6 => iS6
      | 7 => iS7
      | 8 => iS8
      | 9 => iS9
      | 10 => iS10
      | _ => iS11, ?_⟩
    intro k q hq
    match k, hq with
    | 0, hq => cases hq; exact hKn0
    | 1, hq => cases hq; exact hKn1
    | 2, hq => cases hq; exact hKn2
    | 3, hq => cases hq; exact hKn3
    | 4, hq => cases hq; exact hKn4
    | 5, hq => cases hq; exact hKn5
    | 6, hq => cases hq; exact hKn6
    | 7, hq => cases hq; exact hKn7
    | 8, hq => cases hq; exact hKn8
    | 9, hq => cases hq; exact hKn9
    | 10, hq => cases hq; exact hKn10
    | 11, hq => cases hq; exact hKn11
    | k + 12, hq => simp [kCl] at hq
  let cy : Nat → ClassId := fun k => match k with
    | 12 => c12
    | 13 => c13
    | 14 => c14
    | 15 => c15
    | 16 => c16
    | 17 => c17
    | _ => c18
  let B : Bx := (cy, (dC, dI), s.heap.size, adK, adV)
  have hK : va_K B.2.1 kCl (tyl B) s := by
    refine ⟨hKc, fun k q hq => ?_⟩
    rcases k with _ | _ | _ | _ | _ | _ | _ | k
    · cases hq; exact a12
    · cases hq; exact a13
    · cases hq; exact a14
    · cases hq; exact a15
    · cases hq; exact a16
    · cases hq; exact a17
    · cases hq; exact a18
    · cases hq
  have hK9 : True := by
    trivial
  /-
    | 0, hq => cases hq; exact a12
    | 1, hq => cases hq; exact a13
    | 2, hq => cases hq; exact a14
    | 3, hq => cases hq; exact a15
    | 4, hq => cases hq; exact a16
    | 5, hq => cases hq; exact a17
    | 6, hq => cases hq; exact a18
    | k + 7, hq => simp [tyl] at hq
  -/
  have hR : StR B s := by
    intro q hq
    obtain ⟨h1, h2⟩ := st_two q hq
    have hm := st_ref q hq
    rcases h2 with h2 | ⟨h3, h4, h5⟩
    · exact vk_R.of (hts _ hm) (by rw [h2]; exact hev _ h1)
    · refine vk_R.of (hts _ hm) ?_
      rw [h3, h4]
      show _ = some (Value.ref (adK q.2.2.2))
      rw [h5]
      have e1 := hev 23 (by omega)
      obtain ⟨w, w1, w2⟩ := Cond.eq_one (args := #[Value.ref b]) (first := s) (o := none) (s := s) (idx := []) (hs _ st_one)
      first | (rw [← e1]; exact w2.trans w1.symm) | (rw [← e1]; exact w1.trans w2.symm)
  have hC : Cx (p, l, e, room_1, s, m, #[Value.ref b], below, meth, c) B cL_law 4 RL 2000 (s.heap.size, 0, s.heap.size + 600000, 7302250) :=
    ⟨hx, hb, hml, hown, fun w h => hts w (gd_tbl h), hK, hR, ⟨hstr, hZ1, hZ2⟩, ⟨va_AO.of (hts _ z9), va_AO.of (hts _ z10), va_AO.of (hts _ z11)⟩, Nat.le_refl _, Nat.le_of_ble_eq_true rfl, Nat.le_of_ble_eq_true rfl, by show 600000 = s.heap.size + 600000 - s.heap.size; omega, rfl⟩
  have hG := tL_law (X := (p, l, e, room_1, s, m, #[Value.ref b], below, meth, c)) hC ⟨hr, hlocks⟩ (Nat.le_of_ble_eq_true rfl) hX ⟨Nat.not_le.mpr hbl, hbl, rfl, rfl, hr, hlocks, rfl⟩ ⟨hz1, hz2⟩ hf
  have hl := lv_entry ([.ref b]) (n := 4) (Nat.le_of_ble_eq_true rfl)
  rw [lg_entry_eq]
  have hP : PW B (T00 s.heap.size) M00 s.heap := by
    refine ⟨rfl, Nat.le_refl _, fun a h => absurd h (by show ¬ (99 : Nat) < 19; omega), fun k q hq => ?_⟩
    unfold wl at hq
    have hz : tp (T00 s.heap.size) - B.2.2.1 = 0 := Nat.sub_self _
    rw [hz] at hq
    simp [va_pl] at hq
  have hW := hG s.heap [] _ hl hP va_S.rf (Nat.le_refl _) (Nat.le_add_right _ _) (Nat.le_refl _) (Nat.zero_le _)
  have hz : tp (T00 s.heap.size) - s.heap.size = 0 := Nat.sub_self _
  dsimp only at hW
  rw [hz] at hW
  exact hW
