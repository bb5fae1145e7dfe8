theorem i_21 : (21 : Int32) = nI 21 := Eq.trans rfl rfl
theorem i_22 : (22 : Int32) = nI 22 := Eq.trans rfl rfl
theorem i_27 : (27 : Int32) = nI 27 := Eq.trans rfl rfl
theorem i_28 : (28 : Int32) = nI 28 := Eq.trans rfl rfl
theorem i_33 : (33 : Int32) = nI 33 := Eq.trans rfl rfl
theorem i_34 : (34 : Int32) = nI 34 := Eq.trans rfl rfl
theorem i_35 : (35 : Int32) = nI 35 := Eq.trans rfl rfl
theorem i_36 : (36 : Int32) = nI 36 := Eq.trans rfl rfl
theorem i_37 : (37 : Int32) = nI 37 := Eq.trans rfl rfl
theorem i_39 : (39 : Int32) = nI 39 := Eq.trans rfl rfl
theorem i_41 : (41 : Int32) = nI 41 := Eq.trans rfl rfl
theorem i_43 : (43 : Int32) = nI 43 := Eq.trans rfl rfl
theorem i_44 : (44 : Int32) = nI 44 := Eq.trans rfl rfl
theorem i_45 : (45 : Int32) = nI 45 := Eq.trans rfl rfl
theorem i_46 : (46 : Int32) = nI 46 := Eq.trans rfl rfl
theorem i_47 : (47 : Int32) = nI 47 := Eq.trans rfl rfl
theorem i_50 : (50 : Int32) = nI 50 := Eq.trans rfl rfl
theorem i_52 : (52 : Int32) = nI 52 := Eq.trans rfl rfl
theorem i_53 : (53 : Int32) = nI 53 := Eq.trans rfl rfl
theorem i_54 : (54 : Int32) = nI 54 := Eq.trans rfl rfl
theorem i_55 : (55 : Int32) = nI 55 := Eq.trans rfl rfl
theorem i_56 : (56 : Int32) = nI 56 := Eq.trans rfl rfl
theorem i_57 : (57 : Int32) = nI 57 := Eq.trans rfl rfl
theorem i_58 : (58 : Int32) = nI 58 := Eq.trans rfl rfl
theorem i_59 : (59 : Int32) = nI 59 := Eq.trans rfl rfl
theorem i_60 : (60 : Int32) = nI 60 := Eq.trans rfl rfl
theorem i_61 : (61 : Int32) = nI 61 := Eq.trans rfl rfl
theorem i_62 : (62 : Int32) = nI 62 := Eq.trans rfl rfl
theorem i_64 : (64 : Int32) = nI 64 := Eq.trans rfl rfl
theorem i_72 : (72 : Int32) = nI 72 := Eq.trans rfl rfl
theorem i_80 : (80 : Int32) = nI 80 := Eq.trans rfl rfl
theorem i_90 : (90 : Int32) = nI 90 := Eq.trans rfl rfl
theorem i_97 : (97 : Int32) = nI 97 := Eq.trans rfl rfl
theorem i_122 : (122 : Int32) = nI 122 := Eq.trans rfl rfl
theorem i_123 : (123 : Int32) = nI 123 := Eq.trans rfl rfl
theorem i_131 : (131 : Int32) = nI 131 := Eq.trans rfl rfl
theorem i_200 : (200 : Int32) = nI 200 := Eq.trans rfl rfl
theorem i_201 : (201 : Int32) = nI 201 := Eq.trans rfl rfl
theorem i_202 : (202 : Int32) = nI 202 := Eq.trans rfl rfl
theorem i_203 : (203 : Int32) = nI 203 := Eq.trans rfl rfl
theorem i_204 : (204 : Int32) = nI 204 := Eq.trans rfl rfl
theorem i_205 : (205 : Int32) = nI 205 := Eq.trans rfl rfl
theorem i_206 : (206 : Int32) = nI 206 := Eq.trans rfl rfl
theorem i_207 : (207 : Int32) = nI 207 := Eq.trans rfl rfl
theorem i_208 : (208 : Int32) = nI 208 := Eq.trans rfl rfl
theorem i_209 : (209 : Int32) = nI 209 := Eq.trans rfl rfl
theorem i_210 : (210 : Int32) = nI 210 := Eq.trans rfl rfl
theorem i_211 : (211 : Int32) = nI 211 := Eq.trans rfl rfl
theorem i_212 : (212 : Int32) = nI 212 := Eq.trans rfl rfl
theorem i_213 : (213 : Int32) = nI 213 := Eq.trans rfl rfl
theorem i_214 : (214 : Int32) = nI 214 := Eq.trans rfl rfl
theorem i_215 : (215 : Int32) = nI 215 := Eq.trans rfl rfl
theorem i_216 : (216 : Int32) = nI 216 := Eq.trans rfl rfl
theorem i_217 : (217 : Int32) = nI 217 := Eq.trans rfl rfl
theorem i_218 : (218 : Int32) = nI 218 := Eq.trans rfl rfl
theorem i_219 : (219 : Int32) = nI 219 := Eq.trans rfl rfl
theorem i_220 : (220 : Int32) = nI 220 := Eq.trans rfl rfl
theorem i_221 : (221 : Int32) = nI 221 := Eq.trans rfl rfl
theorem i_222 : (222 : Int32) = nI 222 := Eq.trans rfl rfl
theorem i_223 : (223 : Int32) = nI 223 := Eq.trans rfl rfl
theorem i_901 : (901 : Int32) = nI 901 := Eq.trans rfl rfl
theorem i_2064 : (2064 : Int32) = nI 2064 := Eq.trans rfl rfl
theorem i_3001 : (3001 : Int32) = nI 3001 := Eq.trans rfl rfl
theorem i_3002 : (3002 : Int32) = nI 3002 := Eq.trans rfl rfl
theorem i_3003 : (3003 : Int32) = nI 3003 := Eq.trans rfl rfl
theorem i_3004 : (3004 : Int32) = nI 3004 := Eq.trans rfl rfl
theorem i_3005 : (3005 : Int32) = nI 3005 := Eq.trans rfl rfl
theorem i_3006 : (3006 : Int32) = nI 3006 := Eq.trans rfl rfl
theorem i_3007 : (3007 : Int32) = nI 3007 := Eq.trans rfl rfl
theorem i_3008 : (3008 : Int32) = nI 3008 := Eq.trans rfl rfl
theorem i_3009 : (3009 : Int32) = nI 3009 := Eq.trans rfl rfl
theorem i_3096 : (3096 : Int32) = nI 3096 := Eq.trans rfl rfl
theorem i_9999 : (9999 : Int32) = nI 9999 := Eq.trans rfl rfl
theorem i_10000 : (10000 : Int32) = nI 10000 := Eq.trans rfl rfl
theorem i_2976 : (2976 : Int32) = nI 2976 := Eq.trans rfl rfl
theorem i_15999 : (15999 : Int32) = nI 15999 := Eq.trans rfl rfl
theorem i_12345 : (12345 : Int32) = nI 12345 := Eq.trans rfl rfl
def xK (i : Nat) : Nat := [10, 12, 5, 8, 13, 13, 13, 13, 4, 2, 13, 13, 13, 13, 13, 13, 14, 13, 13, 6, 13, 13, 13, 14, 14, 7, 13, 7, 13, 17, 7, 13, 7, 13, 7, 13, 7, 13, 7, 13, 7, 13, 7, 13, 7, 13, 7, 13, 7, 13, 18, 9, 14, 9, 14, 9, 14, 9, 14, 16, 1, 7, 13, 1, 7, 13, 13, 13, 13].getD i 0
def xL (i : Nat) : Nat := [0, 900, 0, 0, 901, 901, 901, 900, 0, 0, 6, 6, 6, 6, 5, 100, 2976, 8, 64, 0, 16, 384, 16, 468, 468, 0, 6, 0, 6, 10, 0, 6, 0, 6, 0, 6, 0, 6, 0, 6, 0, 6, 0, 6, 0, 6, 0, 6, 0, 6, 4, 0, 40, 0, 40, 0, 40, 0, 40, 2, 0, 0, 6, 0, 0, 6, 24, 24, 4].getD i 0
def xO (i : Nat) : Nat := [0, 0, 0, 0, 0, 0, 0, 0, 0, 0, 2, 2, 3, 3, 3, 8, 8, 8, 8, 19, 19, 19, 25, 27, 30, 32, 34, 36, 38, 40, 42, 44, 46, 48, 50, 51, 50, 53, 50, 55, 50, 57, 59, 60, 61, 59, 63, 64].getD i 0
def xF (i : Nat) : Nat := [0, 2, 3, 4, 5, 6, 7, 9, 10, 13, 0, 4, 0, 1, 2, 1, 2, 4, 5, 0, 1, 2, 0, 0, 0, 0, 0, 0, 0, 0, 0, 0, 0, 0, 0, 0, 1, 0, 2, 0, 3, 0, 0, 0, 0, 1, 0, 0].getD i 0
def xT (i : Nat) : Nat := [1, 2, 8, 19, 25, 27, 29, 50, 59, 68, 3, 7, 4, 5, 6, 15, 16, 17, 18, 20, 21, 22, 26, 28, 31, 33, 35, 37, 39, 41, 43, 45, 47, 49, 51, 52, 53, 54, 55, 56, 57, 58, 60, 61, 62, 63, 64, 65].getD i 0
/-- where the cells of the class lie -/
def PX (x : Nat) (T : Sh) (M : Me) : Prop := (∀ i, i < 69 → kd T (x + i) = xK i ∧ ln T (x + i) = xL i) ∧ ∀ i, i < 48 → gR M (x + xO i) (xF i) = some (x + xT i)
section
variable {x : Nat} {T : Sh} {M : Me}
theorem PX.k0 (h : PX x T M) : kd T x = 10 := (h.1 0 (by omega)).1
theorem PX.k1 (h : PX x T M) : kd T (x + 1) = 12 := (h.1 1 (by omega)).1
theorem PX.l1 (h : PX x T M) : ln T (x + 1) = 900 := (h.1 1 (by omega)).2
theorem PX.k2 (h : PX x T M) : kd T (x + 2) = 5 := (h.1 2 (by omega)).1
theorem PX.k3 (h : PX x T M) : kd T (x + 3) = 8 := (h.1 3 (by omega)).1
theorem PX.k4 (h : PX x T M) : kd T (x + 4) = 13 := (h.1 4 (by omega)).1
theorem PX.l4 (h : PX x T M) : ln T (x + 4) = 901 := (h.1 4 (by omega)).2
theorem PX.k5 (h : PX x T M) : kd T (x + 5) = 13 := (h.1 5 (by omega)).1
theorem PX.l5 (h : PX x T M) : ln T (x + 5) = 901 := (h.1 5 (by omega)).2
theorem PX.k6 (h : PX x T M) : kd T (x + 6) = 13 := (h.1 6 (by omega)).1
theorem PX.l6 (h : PX x T M) : ln T (x + 6) = 901 := (h.1 6 (by omega)).2
theorem PX.k7 (h : PX x T M) : kd T (x + 7) = 13 := (h.1 7 (by omega)).1
theorem PX.l7 (h : PX x T M) : ln T (x + 7) = 900 := (h.1 7 (by omega)).2
theorem PX.k8 (h : PX x T M) : kd T (x + 8) = 4 := (h.1 8 (by omega)).1
theorem PX.k9 (h : PX x T M) : kd T (x + 9) = 2 := (h.1 9 (by omega)).1
theorem PX.k10 (h : PX x T M) : kd T (x + 10) = 13 := (h.1 10 (by omega)).1
theorem PX.l10 (h : PX x T M) : ln T (x + 10) = 6 := (h.1 10 (by omega)).2
theorem PX.k11 (h : PX x T M) : kd T (x + 11) = 13 := (h.1 11 (by omega)).1
theorem PX.l11 (h : PX x T M) : ln T (x + 11) = 6 := (h.1 11 (by omega)).2
theorem PX.k12 (h : PX x T M) : kd T (x + 12) = 13 := (h.1 12 (by omega)).1
theorem PX.l12 (h : PX x T M) : ln T (x + 12) = 6 := (h.1 12 (by omega)).2
theorem PX.k13 (h : PX x T M) : kd T (x + 13) = 13 := (h.1 13 (by omega)).1
theorem PX.l13 (h : PX x T M) : ln T (x + 13) = 6 := (h.1 13 (by omega)).2
theorem PX.k14 (h : PX x T M) : kd T (x + 14) = 13 := (h.1 14 (by omega)).1
theorem PX.l14 (h : PX x T M) : ln T (x + 14) = 5 := (h.1 14 (by omega)).2
theorem PX.k15 (h : PX x T M) : kd T (x + 15) = 13 := (h.1 15 (by omega)).1
theorem PX.l15 (h : PX x T M) : ln T (x + 15) = 100 := (h.1 15 (by omega)).2
theorem PX.k16 (h : PX x T M) : kd T (x + 16) = 14 := (h.1 16 (by omega)).1
theorem PX.l16 (h : PX x T M) : ln T (x + 16) = 2976 := (h.1 16 (by omega)).2
theorem PX.k17 (h : PX x T M) : kd T (x + 17) = 13 := (h.1 17 (by omega)).1
theorem PX.l17 (h : PX x T M) : ln T (x + 17) = 8 := (h.1 17 (by omega)).2
theorem PX.k18 (h : PX x T M) : kd T (x + 18) = 13 := (h.1 18 (by omega)).1
theorem PX.l18 (h : PX x T M) : ln T (x + 18) = 64 := (h.1 18 (by omega)).2
theorem PX.k19 (h : PX x T M) : kd T (x + 19) = 6 := (h.1 19 (by omega)).1
theorem PX.k20 (h : PX x T M) : kd T (x + 20) = 13 := (h.1 20 (by omega)).1
theorem PX.l20 (h : PX x T M) : ln T (x + 20) = 16 := (h.1 20 (by omega)).2
theorem PX.k21 (h : PX x T M) : kd T (x + 21) = 13 := (h.1 21 (by omega)).1
theorem PX.l21 (h : PX x T M) : ln T (x + 21) = 384 := (h.1 21 (by omega)).2
theorem PX.k22 (h : PX x T M) : kd T (x + 22) = 13 := (h.1 22 (by omega)).1
theorem PX.l22 (h : PX x T M) : ln T (x + 22) = 16 := (h.1 22 (by omega)).2
theorem PX.k23 (h : PX x T M) : kd T (x + 23) = 14 := (h.1 23 (by omega)).1
theorem PX.l23 (h : PX x T M) : ln T (x + 23) = 468 := (h.1 23 (by omega)).2
theorem PX.k24 (h : PX x T M) : kd T (x + 24) = 14 := (h.1 24 (by omega)).1
theorem PX.l24 (h : PX x T M) : ln T (x + 24) = 468 := (h.1 24 (by omega)).2
theorem PX.k25 (h : PX x T M) : kd T (x + 25) = 7 := (h.1 25 (by omega)).1
theorem PX.k26 (h : PX x T M) : kd T (x + 26) = 13 := (h.1 26 (by omega)).1
theorem PX.l26 (h : PX x T M) : ln T (x + 26) = 6 := (h.1 26 (by omega)).2
theorem PX.k27 (h : PX x T M) : kd T (x + 27) = 7 := (h.1 27 (by omega)).1
theorem PX.k28 (h : PX x T M) : kd T (x + 28) = 13 := (h.1 28 (by omega)).1
theorem PX.l28 (h : PX x T M) : ln T (x + 28) = 6 := (h.1 28 (by omega)).2
theorem PX.k29 (h : PX x T M) : kd T (x + 29) = 17 := (h.1 29 (by omega)).1
theorem PX.l29 (h : PX x T M) : ln T (x + 29) = 10 := (h.1 29 (by omega)).2
theorem PX.k30 (h : PX x T M) : kd T (x + 30) = 7 := (h.1 30 (by omega)).1
theorem PX.k31 (h : PX x T M) : kd T (x + 31) = 13 := (h.1 31 (by omega)).1
theorem PX.l31 (h : PX x T M) : ln T (x + 31) = 6 := (h.1 31 (by omega)).2
theorem PX.k32 (h : PX x T M) : kd T (x + 32) = 7 := (h.1 32 (by omega)).1
theorem PX.k33 (h : PX x T M) : kd T (x + 33) = 13 := (h.1 33 (by omega)).1
theorem PX.l33 (h : PX x T M) : ln T (x + 33) = 6 := (h.1 33 (by omega)).2
theorem PX.k34 (h : PX x T M) : kd T (x + 34) = 7 := (h.1 34 (by omega)).1
theorem PX.k35 (h : PX x T M) : kd T (x + 35) = 13 := (h.1 35 (by omega)).1
theorem PX.l35 (h : PX x T M) : ln T (x + 35) = 6 := (h.1 35 (by omega)).2
theorem PX.k36 (h : PX x T M) : kd T (x + 36) = 7 := (h.1 36 (by omega)).1
theorem PX.k37 (h : PX x T M) : kd T (x + 37) = 13 := (h.1 37 (by omega)).1
theorem PX.l37 (h : PX x T M) : ln T (x + 37) = 6 := (h.1 37 (by omega)).2
theorem PX.k38 (h : PX x T M) : kd T (x + 38) = 7 := (h.1 38 (by omega)).1
theorem PX.k39 (h : PX x T M) : kd T (x + 39) = 13 := (h.1 39 (by omega)).1
theorem PX.l39 (h : PX x T M) : ln T (x + 39) = 6 := (h.1 39 (by omega)).2
theorem PX.k40 (h : PX x T M) : kd T (x + 40) = 7 := (h.1 40 (by omega)).1
theorem PX.k41 (h : PX x T M) : kd T (x + 41) = 13 := (h.1 41 (by omega)).1
theorem PX.l41 (h : PX x T M) : ln T (x + 41) = 6 := (h.1 41 (by omega)).2
theorem PX.k42 (h : PX x T M) : kd T (x + 42) = 7 := (h.1 42 (by omega)).1
theorem PX.k43 (h : PX x T M) : kd T (x + 43) = 13 := (h.1 43 (by omega)).1
theorem PX.l43 (h : PX x T M) : ln T (x + 43) = 6 := (h.1 43 (by omega)).2
theorem PX.k44 (h : PX x T M) : kd T (x + 44) = 7 := (h.1 44 (by omega)).1
theorem PX.k45 (h : PX x T M) : kd T (x + 45) = 13 := (h.1 45 (by omega)).1
theorem PX.l45 (h : PX x T M) : ln T (x + 45) = 6 := (h.1 45 (by omega)).2
theorem PX.k46 (h : PX x T M) : kd T (x + 46) = 7 := (h.1 46 (by omega)).1
theorem PX.k47 (h : PX x T M) : kd T (x + 47) = 13 := (h.1 47 (by omega)).1
theorem PX.l47 (h : PX x T M) : ln T (x + 47) = 6 := (h.1 47 (by omega)).2
theorem PX.k48 (h : PX x T M) : kd T (x + 48) = 7 := (h.1 48 (by omega)).1
theorem PX.k49 (h : PX x T M) : kd T (x + 49) = 13 := (h.1 49 (by omega)).1
theorem PX.l49 (h : PX x T M) : ln T (x + 49) = 6 := (h.1 49 (by omega)).2
theorem PX.k50 (h : PX x T M) : kd T (x + 50) = 18 := (h.1 50 (by omega)).1
theorem PX.l50 (h : PX x T M) : ln T (x + 50) = 4 := (h.1 50 (by omega)).2
theorem PX.k51 (h : PX x T M) : kd T (x + 51) = 9 := (h.1 51 (by omega)).1
theorem PX.k52 (h : PX x T M) : kd T (x + 52) = 14 := (h.1 52 (by omega)).1
theorem PX.l52 (h : PX x T M) : ln T (x + 52) = 40 := (h.1 52 (by omega)).2
theorem PX.k53 (h : PX x T M) : kd T (x + 53) = 9 := (h.1 53 (by omega)).1
theorem PX.k54 (h : PX x T M) : kd T (x + 54) = 14 := (h.1 54 (by omega)).1
theorem PX.l54 (h : PX x T M) : ln T (x + 54) = 40 := (h.1 54 (by omega)).2
theorem PX.k55 (h : PX x T M) : kd T (x + 55) = 9 := (h.1 55 (by omega)).1
theorem PX.k56 (h : PX x T M) : kd T (x + 56) = 14 := (h.1 56 (by omega)).1
theorem PX.l56 (h : PX x T M) : ln T (x + 56) = 40 := (h.1 56 (by omega)).2
theorem PX.k57 (h : PX x T M) : kd T (x + 57) = 9 := (h.1 57 (by omega)).1
theorem PX.k58 (h : PX x T M) : kd T (x + 58) = 14 := (h.1 58 (by omega)).1
theorem PX.l58 (h : PX x T M) : ln T (x + 58) = 40 := (h.1 58 (by omega)).2
theorem PX.k59 (h : PX x T M) : kd T (x + 59) = 16 := (h.1 59 (by omega)).1
theorem PX.l59 (h : PX x T M) : ln T (x + 59) = 2 := (h.1 59 (by omega)).2
theorem PX.k60 (h : PX x T M) : kd T (x + 60) = 1 := (h.1 60 (by omega)).1
theorem PX.k61 (h : PX x T M) : kd T (x + 61) = 7 := (h.1 61 (by omega)).1
theorem PX.k62 (h : PX x T M) : kd T (x + 62) = 13 := (h.1 62 (by omega)).1
theorem PX.l62 (h : PX x T M) : ln T (x + 62) = 6 := (h.1 62 (by omega)).2
theorem PX.k63 (h : PX x T M) : kd T (x + 63) = 1 := (h.1 63 (by omega)).1
theorem PX.k64 (h : PX x T M) : kd T (x + 64) = 7 := (h.1 64 (by omega)).1
theorem PX.k65 (h : PX x T M) : kd T (x + 65) = 13 := (h.1 65 (by omega)).1
theorem PX.l65 (h : PX x T M) : ln T (x + 65) = 6 := (h.1 65 (by omega)).2
theorem PX.k66 (h : PX x T M) : kd T (x + 66) = 13 := (h.1 66 (by omega)).1
theorem PX.l66 (h : PX x T M) : ln T (x + 66) = 24 := (h.1 66 (by omega)).2
theorem PX.k67 (h : PX x T M) : kd T (x + 67) = 13 := (h.1 67 (by omega)).1
theorem PX.l67 (h : PX x T M) : ln T (x + 67) = 24 := (h.1 67 (by omega)).2
theorem PX.k68 (h : PX x T M) : kd T (x + 68) = 13 := (h.1 68 (by omega)).1
theorem PX.l68 (h : PX x T M) : ln T (x + 68) = 4 := (h.1 68 (by omega)).2
theorem PX.r0_0 (h : PX x T M) : gR M x 0 = some (x + 1) := h.2 0 (by omega)
theorem PX.r0_2 (h : PX x T M) : gR M x 2 = some (x + 2) := h.2 1 (by omega)
theorem PX.r0_3 (h : PX x T M) : gR M x 3 = some (x + 8) := h.2 2 (by omega)
theorem PX.r0_4 (h : PX x T M) : gR M x 4 = some (x + 19) := h.2 3 (by omega)
theorem PX.r0_5 (h : PX x T M) : gR M x 5 = some (x + 25) := h.2 4 (by omega)
theorem PX.r0_6 (h : PX x T M) : gR M x 6 = some (x + 27) := h.2 5 (by omega)
theorem PX.r0_7 (h : PX x T M) : gR M x 7 = some (x + 29) := h.2 6 (by omega)
theorem PX.r0_9 (h : PX x T M) : gR M x 9 = some (x + 50) := h.2 7 (by omega)
theorem PX.r0_10 (h : PX x T M) : gR M x 10 = some (x + 59) := h.2 8 (by omega)
theorem PX.r0_13 (h : PX x T M) : gR M x 13 = some (x + 68) := h.2 9 (by omega)
theorem PX.r2_0 (h : PX x T M) : gR M (x + 2) 0 = some (x + 3) := h.2 10 (by omega)
theorem PX.r2_4 (h : PX x T M) : gR M (x + 2) 4 = some (x + 7) := h.2 11 (by omega)
theorem PX.r3_0 (h : PX x T M) : gR M (x + 3) 0 = some (x + 4) := h.2 12 (by omega)
theorem PX.r3_1 (h : PX x T M) : gR M (x + 3) 1 = some (x + 5) := h.2 13 (by omega)
theorem PX.r3_2 (h : PX x T M) : gR M (x + 3) 2 = some (x + 6) := h.2 14 (by omega)
theorem PX.r8_1 (h : PX x T M) : gR M (x + 8) 1 = some (x + 15) := h.2 15 (by omega)
theorem PX.r8_2 (h : PX x T M) : gR M (x + 8) 2 = some (x + 16) := h.2 16 (by omega)
theorem PX.r8_4 (h : PX x T M) : gR M (x + 8) 4 = some (x + 17) := h.2 17 (by omega)
theorem PX.r8_5 (h : PX x T M) : gR M (x + 8) 5 = some (x + 18) := h.2 18 (by omega)
theorem PX.r19_0 (h : PX x T M) : gR M (x + 19) 0 = some (x + 20) := h.2 19 (by omega)
theorem PX.r19_1 (h : PX x T M) : gR M (x + 19) 1 = some (x + 21) := h.2 20 (by omega)
theorem PX.r19_2 (h : PX x T M) : gR M (x + 19) 2 = some (x + 22) := h.2 21 (by omega)
theorem PX.r25_0 (h : PX x T M) : gR M (x + 25) 0 = some (x + 26) := h.2 22 (by omega)
theorem PX.r27_0 (h : PX x T M) : gR M (x + 27) 0 = some (x + 28) := h.2 23 (by omega)
theorem PX.r30_0 (h : PX x T M) : gR M (x + 30) 0 = some (x + 31) := h.2 24 (by omega)
theorem PX.r32_0 (h : PX x T M) : gR M (x + 32) 0 = some (x + 33) := h.2 25 (by omega)
theorem PX.r34_0 (h : PX x T M) : gR M (x + 34) 0 = some (x + 35) := h.2 26 (by omega)
theorem PX.r36_0 (h : PX x T M) : gR M (x + 36) 0 = some (x + 37) := h.2 27 (by omega)
theorem PX.r38_0 (h : PX x T M) : gR M (x + 38) 0 = some (x + 39) := h.2 28 (by omega)
theorem PX.r40_0 (h : PX x T M) : gR M (x + 40) 0 = some (x + 41) := h.2 29 (by omega)
theorem PX.r42_0 (h : PX x T M) : gR M (x + 42) 0 = some (x + 43) := h.2 30 (by omega)
theorem PX.r44_0 (h : PX x T M) : gR M (x + 44) 0 = some (x + 45) := h.2 31 (by omega)
theorem PX.r46_0 (h : PX x T M) : gR M (x + 46) 0 = some (x + 47) := h.2 32 (by omega)
theorem PX.r48_0 (h : PX x T M) : gR M (x + 48) 0 = some (x + 49) := h.2 33 (by omega)
theorem PX.r50_0 (h : PX x T M) : gR M (x + 50) 0 = some (x + 51) := h.2 34 (by omega)
theorem PX.r51_0 (h : PX x T M) : gR M (x + 51) 0 = some (x + 52) := h.2 35 (by omega)
theorem PX.r50_1 (h : PX x T M) : gR M (x + 50) 1 = some (x + 53) := h.2 36 (by omega)
theorem PX.r53_0 (h : PX x T M) : gR M (x + 53) 0 = some (x + 54) := h.2 37 (by omega)
theorem PX.r50_2 (h : PX x T M) : gR M (x + 50) 2 = some (x + 55) := h.2 38 (by omega)
theorem PX.r55_0 (h : PX x T M) : gR M (x + 55) 0 = some (x + 56) := h.2 39 (by omega)
theorem PX.r50_3 (h : PX x T M) : gR M (x + 50) 3 = some (x + 57) := h.2 40 (by omega)
theorem PX.r57_0 (h : PX x T M) : gR M (x + 57) 0 = some (x + 58) := h.2 41 (by omega)
theorem PX.r59_0 (h : PX x T M) : gR M (x + 59) 0 = some (x + 60) := h.2 42 (by omega)
theorem PX.r60_0 (h : PX x T M) : gR M (x + 60) 0 = some (x + 61) := h.2 43 (by omega)
theorem PX.r61_0 (h : PX x T M) : gR M (x + 61) 0 = some (x + 62) := h.2 44 (by omega)
theorem PX.r59_1 (h : PX x T M) : gR M (x + 59) 1 = some (x + 63) := h.2 45 (by omega)
theorem PX.r63_0 (h : PX x T M) : gR M (x + 63) 0 = some (x + 64) := h.2 46 (by omega)
theorem PX.r64_0 (h : PX x T M) : gR M (x + 64) 0 = some (x + 65) := h.2 47 (by omega)
end
theorem PX.fr {x : Nat} {T : Sh} {M M2 : Me} (h : PX x T M) (e : ∀ i, i < 48 → gR M2 (x + xO i) (xF i) = gR M (x + xO i) (xF i)) : PX x T M2 := ⟨h.1, fun i hi => (e i hi).trans (h.2 i hi)⟩
theorem PX.eq {x : Nat} {T : Sh} {M M2 : Me} (h : PX x T M) (e : M2.2.2 = M.2.2) : PX x T M2 := h.fr (fun i _ => by unfold gR; rw [e])
/-! whole rows -/
def pA (M : Me) (a : Nat) (g : Nat → Int32) : Me := (fun b k => if b = a then g k else M.1 b k, M.2)
def pB (M : Me) (a : Nat) (g : Nat → Int64) : Me := (M.1, fun b k => if b = a then g k else M.2.1 b k, M.2.2)
theorem mIA (M : Me) (a b k : Nat) (g : Nat → Int32) : gI (pA M a g) b k = if b = a then g k else gI M b k := Eq.trans rfl rfl
theorem mIA1 {M : Me} {a k : Nat} {g : Nat → Int32} : gI (pA M a g) a k = g k := if_pos rfl
theorem mIAn {M : Me} {a b k : Nat} {g : Nat → Int32} (h : b ≠ a) : gI (pA M a g) b k = gI M b k := if_neg h
theorem mJA (M : Me) (a b k : Nat) (g : Nat → Int32) : gJ (pA M a g) b k = gJ M b k := Eq.trans rfl rfl
theorem mRA (M : Me) (a b k : Nat) (g : Nat → Int32) : gR (pA M a g) b k = gR M b k := Eq.trans rfl rfl
theorem mJB1 {M : Me} {a k : Nat} {g : Nat → Int64} : gJ (pB M a g) a k = g k := if_pos rfl
theorem mJBn {M : Me} {a b k : Nat} {g : Nat → Int64} (h : b ≠ a) : gJ (pB M a g) b k = gJ M b k := if_neg h
theorem mIB (M : Me) (a b k : Nat) (g : Nat → Int64) : gI (pB M a g) b k = gI M b k := Eq.trans rfl rfl
theorem mRB (M : Me) (a b k : Nat) (g : Nat → Int64) : gR (pB M a g) b k = gR M b k := Eq.trans rfl rfl
theorem me_ext {M M2 : Me} (h1 : ∀ a k, gI M a k = gI M2 a k) (h2 : ∀ a k, gJ M a k = gJ M2 a k) (h3 : ∀ a k, gR M a k = gR M2 a k) : M = M2 :=
  Prod.ext (funext fun a => funext fun k => h1 a k) (Prod.ext (funext fun a => funext fun k => h2 a k) (funext fun a => funext fun k => h3 a k))
theorem pA_pI {M : Me} {a k : Nat} {g : Nat → Int32} {v : Int32} : pI (pA M a g) a k v = pA M a (fun j => if j = k then v else g j) := by
  refine me_ext (fun b j => ?_) (fun _ _ => rfl) (fun _ _ => rfl)
  rw [mII, mIA, mIA]
  by_cases h : b = a
  · simp [h]
  · simp [h]
theorem pI_pA {M : Me} {a k : Nat} {v : Int32} : pI M a k v = pA M a (fun j => if j = k then v else gI M a j) := by
  refine me_ext (fun b j => ?_) (fun _ _ => rfl) (fun _ _ => rfl)
  rw [mII, mIA]
  by_cases h : b = a
  · simp [h]
  · simp [h]
theorem pA_pA {M : Me} {a : Nat} {g g2 : Nat → Int32} : pA (pA M a g) a g2 = pA M a g2 := by
  refine me_ext (fun b j => ?_) (fun _ _ => rfl) (fun _ _ => rfl)
  rw [mIA, mIA, mIA]
  by_cases h : b = a <;> simp [h]
theorem pA_id {M : Me} {a : Nat} {g : Nat → Int32} (h : ∀ k, g k = gI M a k) : pA M a g = M := by
  refine me_ext (fun b j => ?_) (fun _ _ => rfl) (fun _ _ => rfl)
  rw [mIA]
  by_cases e : b = a
  · rw [if_pos e, h, e]
  · rw [if_neg e]
theorem pB_pJ {M : Me} {a k : Nat} {g : Nat → Int64} {v : Int64} : pJ (pB M a g) a k v = pB M a (fun j => if j = k then v else g j) := by
  refine me_ext (fun _ _ => rfl) (fun b j => ?_) (fun _ _ => rfl)
  show (if b = a ∧ j = k then v else if b = a then g j else gJ M b j) = if b = a then (if j = k then v else g j) else gJ M b j
  by_cases h : b = a
  · simp [h]
  · simp [h]
theorem pJ_pB {M : Me} {a k : Nat} {v : Int64} : pJ M a k v = pB M a (fun j => if j = k then v else gJ M a j) := by
  refine me_ext (fun _ _ => rfl) (fun b j => ?_) (fun _ _ => rfl)
  show (if b = a ∧ j = k then v else gJ M b j) = if b = a then (if j = k then v else gJ M a j) else gJ M b j
  by_cases h : b = a
  · simp [h]
  · simp [h]
theorem pB_id {M : Me} {a : Nat} {g : Nat → Int64} (h : ∀ k, g k = gJ M a k) : pB M a g = M := by
  refine me_ext (fun _ _ => rfl) (fun b j => ?_) (fun _ _ => rfl)
  show (if b = a then g j else gJ M b j) = gJ M b j
  by_cases e : b = a
  · rw [if_pos e, h, e]
  · rw [if_neg e]
theorem pA_cong {M : Me} {a : Nat} {g g2 : Nat → Int32} (h : ∀ k, g k = g2 k) : pA M a g = pA M a g2 := by rw [show g = g2 from funext h]
theorem pB_cong {M : Me} {a : Nat} {g g2 : Nat → Int64} (h : ∀ k, g k = g2 k) : pB M a g = pB M a g2 := by rw [show g = g2 from funext h]
/-- a loop whose states are known, from a state that is the first -/
theorem lp_itG {σ ρ : Type} {b : σ → Option (σ ⊕ ρ)} {s0 : σ} (st : Nat → σ) (e : Nat) (r : ρ) (h0 : st 0 = s0) (he : e < 1000000) (h : ∀ i, i < e → b (st i) = some (.inl (st (i + 1)))) (hx : b (st e) = some (.inr r)) : lp FU b s0 = some r := by
  rw [← h0]; exact lp_itF st e r he h hx
theorem fill_eq {T : Sh} {M : Me} {a n : Nat} {v : Int32} (hk : kd T a = 13) (hl : ln T a = n) (hn : n < 1000000) : fJ7_fill_53178 T M a v = some ((), pA M a (fun k => if k < n then v else gI M a k)) := by
  unfold fJ7_fill_53178
  simp only [hk, hl, gdI, lte]
  rw [lp_itG (fun i => (nI i, pA M a (fun k => if k < i then v else gI M a k))) n (pA M a (fun k => if k < n then v else gI M a k)) ?_ hn ?_ ?_]
  · rfl
  · refine Prod.ext nI_0 (pA_id (fun k => by simp))
  · intro i hi
    show bJ7_fill_53178_5 T a v (nI n) (nI i) (pA M a _) = _
    unfold bJ7_fill_53178_5
    simp (disch := omega) only [gdI, gdT, Option.bind_some, lte, une2, une3, nI_add, gvI, cl_nI, c_le, c_lt, c_eq, Sum.elim_inl, Sum.elim_inr, hk, hl, Nat.not_le.mpr hi, if_false, pA_pI, nI_1]
    refine congrArg (fun z => some (Sum.inl (nI (i + 1), z))) (pA_cong (fun k => ?_))
    by_cases h : k = i
    · subst h; simp
    · have : (k < i + 1) = (k < i) := propext (by omega)
      simp [h, this]
  · show bJ7_fill_53178_5 T a v (nI n) (nI n) (pA M a _) = _
    unfold bJ7_fill_53178_5
    simp (disch := omega) only [c_le, Nat.le_refl, if_true]
theorem fillJ_eq {T : Sh} {M : Me} {a n : Nat} {v : Int64} (hk : kd T a = 14) (hl : ln T a = n) (hn : n < 1000000) : fJ7_fill_d0a16 T M a v = some ((), pB M a (fun k => if k < n then v else gJ M a k)) := by
  unfold fJ7_fill_d0a16
  simp only [hk, hl, gdI, lte]
  rw [lp_itG (fun i => (nI i, pB M a (fun k => if k < i then v else gJ M a k))) n (pB M a (fun k => if k < n then v else gJ M a k)) ?_ hn ?_ ?_]
  · rfl
  · refine Prod.ext nI_0 (pB_id (fun k => by simp))
  · intro i hi
    show bJ7_fill_d0a16_6 T a v (nI n) (nI i) (pB M a _) = _
    unfold bJ7_fill_d0a16_6
    simp (disch := omega) only [gdI, gdT, Option.bind_some, lte, une2, une3, nI_add, gvI, cl_nI, c_le, c_lt, c_eq, Sum.elim_inl, Sum.elim_inr, hk, hl, Nat.not_le.mpr hi, if_false, pB_pJ, nI_1]
    refine congrArg (fun z => some (Sum.inl (nI (i + 1), z))) (pB_cong (fun k => ?_))
    by_cases h : k = i
    · subst h; simp
    · have : (k < i + 1) = (k < i) := propext (by omega)
      simp [h, this]
  · show bJ7_fill_d0a16_6 T a v (nI n) (nI n) (pB M a _) = _
    unfold bJ7_fill_d0a16_6
    simp (disch := omega) only [c_le, Nat.le_refl, if_true]
theorem clear_eq {T : Sh} {M : Me} {a c : Nat} (hk : kd T a = 7) (hr : gR M a 0 = some c) (hc : kd T c = 13) (hl : ln T c = 6) : fX8_clear T M a = some ((), pI (pI (pA M c (fun k => if k < 6 then 0 else gI M c k)) a 1 0) a 2 (-1)) := by
  unfold fX8_clear
  simp only [hk, hr, gdI, gdT, Option.bind_some, fill_eq hc hl (by omega), une2, lte]
theorem copy_eq {T : Sh} {M : Me} {a b c d : Nat} (ha : kd T a = 7) (hb : kd T b = 7) (hr : gR M a 0 = some c) (hc : kd T c = 13) (hl : ln T c = 6) (hr2 : gR M b 0 = some d) (hd : kd T d = 13) (hl2 : ln T d = 6) (hcd : d ≠ c) : fX8_copy T M a b = some ((), pI (pI (pA M c (fun k => if k < 6 then gI M d k else gI M c k)) a 1 (gI (pA M c (fun k => if k < 6 then gI M d k else gI M c k)) b 1)) a 2 (gI (pI (pA M c (fun k => if k < 6 then gI M d k else gI M c k)) a 1 (gI (pA M c (fun k => if k < 6 then gI M d k else gI M c k)) b 1)) b 2)) := by
  unfold fX8_copy
  rw [lp_itG (fun i => (nI i, pA M c (fun k => if k < i then gI M d k else gI M c k))) 6 (pA M c (fun k => if k < 6 then gI M d k else gI M c k)) ?_ (by omega) ?_ ?_]
  · simp only [Option.bind_some, ha, hb, gdI, gdT, lte]
  · refine Prod.ext nI_0 (pA_id (fun k => by simp))
  · intro i hi
    show bX8_copy_2 T a b (nI i) (pA M c _) = _
    unfold bX8_copy_2
    simp (disch := omega) only [gdI, gdT, Option.bind_some, lte, une2, une3, nI_add, gvI, cl_nI, c_le, c_lt, c_eq, Sum.elim_inl, Sum.elim_inr, i_6, mRA, ha, hb, hr, hr2, hc, hl, hd, hl2, Nat.not_le.mpr hi, if_false, pA_pI, nI_1, mIAn hcd]
    refine congrArg (fun z => some (Sum.inl (nI (i + 1), z))) (pA_cong (fun k => ?_))
    by_cases h : k = i
    · subst h; simp
    · have : (k < i + 1) = (k < i) := propext (by omega)
      simp [h, this]
  · show bX8_copy_2 T a b (nI 6) (pA M c _) = _
    unfold bX8_copy_2
    simp (disch := omega) only [i_6, c_le, Nat.le_refl, if_true]
