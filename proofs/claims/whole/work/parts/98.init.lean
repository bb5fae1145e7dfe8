/-! both objects are made -/
/-- cells from t on, what they are, hold -/
def BS (t : Nat) (ks : List (Nat × Nat)) (z : Nat) (rf : Nat → Nat → Option Nat) (fI : Nat → Nat → Int32) (fJ : Nat → Nat → Int64) (T : Sh) (M : Me) : Prop := tp T = t + ks.length ∧ sl T = z ∧ (∀ i, i < ks.length → kd T (t + i) = (ks.getD (ks.length - 1 - i) (0, 0)).1 ∧ ln T (t + i) = (ks.getD (ks.length - 1 - i) (0, 0)).2) ∧ (∀ i k, gR M (t + i) k = (rf i k).map (fun s => t + s)) ∧ (∀ i k, gI M (t + i) k = fI i k) ∧ (∀ i k, gJ M (t + i) k = fJ i k) ∧ ∀ i k, ks.length ≤ i → rf i k = none ∧ fI i k = 0 ∧ fJ i k = 0
section
variable {t z : Nat} {ks : List (Nat × Nat)} {rf : Nat → Nat → Option Nat} {fI : Nat → Nat → Int32} {fJ : Nat → Nat → Int64} {T : Sh} {M : Me}
theorem BS.tpn (h : BS t ks z rf fI fJ T M) {n : Nat} (e : ks.length = n) : tp T = t + n := by rw [← e]; exact h.1
theorem BS.kk (h : BS t ks z rf fI fJ T M) {o k : Nat} (e : o < ks.length ∧ (ks.getD (ks.length - 1 - o) (0, 0)).1 = k) : kd T (t + o) = k := (h.2.2.1 o e.1).1.trans e.2
theorem BS.ll (h : BS t ks z rf fI fJ T M) {o k : Nat} (e : o < ks.length ∧ (ks.getD (ks.length - 1 - o) (0, 0)).2 = k) : ln T (t + o) = k := (h.2.2.1 o e.1).2.trans e.2
theorem BS.gr (h : BS t ks z rf fI fJ T M) {o f s : Nat} (e : rf o f = some s) : gR M (t + o) f = some (t + s) := by rw [h.2.2.2.1, e]; rfl
theorem bs_new (k n zz : Nat) (h : BS t ks z rf fI fJ T M) : BS t ((k, n) :: ks) (z + zz) rf fI fJ (nT T k n zz) (nM T M) := by
  obtain ⟨h1, h2, h3, h4, h5, h6, h7⟩ := h
  refine ⟨by show tp T + 1 = _; rw [h1]; rfl, by show sl T + zz = _; rw [h2], fun i hi => ?_, fun i q => ?_, fun i q => ?_, fun i q => ?_, fun i q hi => h7 i q (by simp only [List.length_cons] at hi; omega)⟩
  · simp only [List.length_cons] at hi ⊢
    by_cases y : i = ks.length
    · subst y
      rw [← h1, kd_nw, ln_nw, show ks.length + 1 - 1 - ks.length = 0 by omega]
      exact ⟨rfl, rfl⟩
    · rw [kd_od (by omega), ln_od (by omega), show ks.length + 1 - 1 - i = (ks.length - 1 - i) + 1 by omega]
      exact h3 i (by omega)
  · by_cases y : i = ks.length
    · subst y
      rw [(h7 _ q (Nat.le_refl _)).1, ← h1, gR_nw]; rfl
    · rw [gR_old (by omega)]; exact h4 i q
  · by_cases y : i = ks.length
    · subst y
      rw [(h7 _ q (Nat.le_refl _)).2.1, ← h1, gI_nw]
    · rw [gI_old (by omega)]; exact h5 i q
  · by_cases y : i = ks.length
    · subst y
      rw [(h7 _ q (Nat.le_refl _)).2.2, ← h1]
      exact congrFun (show (va_up M.2.1 T.1 (fun _ => 0)) T.1 = fun _ => 0 from if_pos rfl) q
    · rw [gJ_old (by omega)]; exact h6 i q
theorem bs_ref (o f s : Nat) (h : BS t ks z rf fI fJ T M) (ho : o < ks.length) : BS t ks z (up2 rf o f (some s)) fI fJ T (pR M (t + o) f (some (t + s))) := by
  obtain ⟨h1, h2, h3, h4, h5, h6, h7⟩ := h
  refine ⟨h1, h2, h3, fun i q => ?_, h5, h6, fun i q hi => ⟨?_, (h7 i q hi).2⟩⟩
  · rw [mRR]
    show _ = ((if i = o ∧ q = f then some s else rf i q) : Option Nat).map _
    by_cases y : i = o ∧ q = f
    · rw [if_pos y, if_pos ⟨by omega, y.2⟩]; rfl
    · rw [if_neg y, if_neg (fun w => y ⟨by omega, w.2⟩)]; exact h4 i q
  · show (if i = o ∧ q = f then some s else rf i q) = none
    rw [if_neg (by omega)]; exact (h7 i q hi).1
theorem bs_int (o f : Nat) (v : Int32) (h : BS t ks z rf fI fJ T M) (ho : o < ks.length) : BS t ks z rf (up2 fI o f v) fJ T (pI M (t + o) f v) := by
  obtain ⟨h1, h2, h3, h4, h5, h6, h7⟩ := h
  refine ⟨h1, h2, h3, h4, fun i q => ?_, h6, fun i q hi => ⟨(h7 i q hi).1, ?_, (h7 i q hi).2.2⟩⟩
  · rw [mII]
    show _ = if i = o ∧ q = f then v else fI i q
    by_cases y : i = o ∧ q = f
    · rw [if_pos y, if_pos ⟨by omega, y.2⟩]
    · rw [if_neg y, if_neg (fun w => y ⟨by omega, w.2⟩)]; exact h5 i q
  · show (if i = o ∧ q = f then v else fI i q) = 0
    rw [if_neg (by omega)]; exact (h7 i q hi).2.1
theorem bs_lng (o f : Nat) (v : Int64) (h : BS t ks z rf fI fJ T M) (ho : o < ks.length) : BS t ks z rf fI (up2 fJ o f v) T (pJ M (t + o) f v) := by
  obtain ⟨h1, h2, h3, h4, h5, h6, h7⟩ := h
  refine ⟨h1, h2, h3, h4, h5, fun i q => ?_, fun i q hi => ⟨(h7 i q hi).1, (h7 i q hi).2.1, ?_⟩⟩
  · rw [gJ_pJ]
    show _ = if i = o ∧ q = f then v else fJ i q
    by_cases y : i = o ∧ q = f
    · rw [if_pos y, if_pos ⟨by omega, y.2⟩]
    · rw [if_neg y, if_neg (fun w => y ⟨by omega, w.2⟩)]; exact h6 i q
  · show (if i = o ∧ q = f then v else fJ i q) = 0
    rw [if_neg (by omega)]; exact (h7 i q hi).2.2
def flF (fI : Nat → Nat → Int32) (o n : Nat) (v : Int32) : Nat → Nat → Int32 := fun i q => if i = o ∧ q < n then v else fI i q
theorem bs_fill (o n : Nat) (v : Int32) (h : BS t ks z rf fI fJ T M) (ho : o < ks.length) : BS t ks z rf (flF fI o n v) fJ T (pA M (t + o) (fun k => if k < n then v else gI M (t + o) k)) := by
  obtain ⟨h1, h2, h3, h4, h5, h6, h7⟩ := h
  refine ⟨h1, h2, h3, h4, fun i q => ?_, h6, fun i q hi => ⟨(h7 i q hi).1, ?_, (h7 i q hi).2.2⟩⟩
  · show _ = if i = o ∧ q < n then v else fI i q
    by_cases e : i = o
    · subst e
      rw [mIA1]
      by_cases y : q < n
      · rw [if_pos y, if_pos ⟨rfl, y⟩]
      · rw [if_neg y, if_neg (fun w => y w.2)]; exact h5 i q
    · rw [mIAn (by omega), if_neg (fun w => e w.1)]; exact h5 i q
  · show (if i = o ∧ q < n then v else fI i q) = 0
    rw [if_neg (by omega)]; exact (h7 i q hi).2.1
theorem ok_lpS {σ ρ : Type} {b : σ → Option (σ ⊕ ρ)} {n : Nat} {s : σ} {Q : ρ → Prop} (h : Ok (b s) (lqE (fun s' => Ok (lp n b s') Q) Q)) : Ok (lp (n + 1) b s) Q := by
  obtain ⟨o, e, ho⟩ := h
  cases o with
  | inl s' => rw [lp_inl e]; exact ho
  | inr r => exact ⟨r, lp_inr e, ho⟩
theorem bs_0 (t : Nat) : BS t [] 0 (fun _ _ => none) (fun _ _ => 0) (fun _ _ => 0) (T00 t) M00 := ⟨rfl, rfl, fun i hi => absurd hi (by simp), fun _ _ => rfl, fun _ _ => rfl, fun _ _ => rfl, fun _ _ _ => ⟨rfl, rfl, rfl⟩⟩
end
/-- what the law begins with -/
def kBS : List (Nat × Nat) := [(14, 160), (13, 4), (13, 4), (14, 24), (14, 24), (14, 384), (14, 384), (13, 384), (13, 64), (15, 384), (13, 8), (13, 16), (13, 6), (13, 900), (13, 1032), (13, 900), (15, 2), (13, 3096), (11, 0), (13, 4), (13, 24), (13, 24), (13, 6), (7, 0), (1, 0), (13, 6), (7, 0), (1, 0), (16, 2), (14, 40), (9, 0), (14, 40), (9, 0), (14, 40), (9, 0), (14, 40), (9, 0), (18, 4), (13, 6), (7, 0), (13, 6), (7, 0), (13, 6), (7, 0), (13, 6), (7, 0), (13, 6), (7, 0), (13, 6), (7, 0), (13, 6), (7, 0), (13, 6), (7, 0), (13, 6), (7, 0), (13, 6), (7, 0), (17, 10), (13, 6), (7, 0), (13, 6), (7, 0), (14, 468), (14, 468), (13, 16), (13, 384), (13, 16), (6, 0), (13, 64), (13, 8), (14, 2976), (13, 100), (13, 5), (13, 6), (13, 6), (13, 6), (13, 6), (2, 0), (4, 0), (13, 900), (13, 901), (13, 901), (13, 901), (8, 0), (5, 0), (12, 900), (10, 0)]
def zBS : Nat := 17280
def rBS : Nat → Nat → Option Nat := (up2 (up2 (up2 (up2 (up2 (up2 (up2 (up2 (up2 (up2 (up2 (up2 (up2 (up2 (up2 (up2 (up2 (up2 (up2 (up2 (up2 (up2 (up2 (up2 (up2 (up2 (up2 (up2 (up2 (up2 (up2 (up2 (up2 (up2 (up2 (up2 (up2 (up2 (up2 (up2 (up2 (up2 (up2 (up2 (up2 (up2 (up2 (up2 (up2 (up2 (up2 (up2 (up2 (up2 (up2 (up2 (up2 (up2 (up2 (up2 (up2 (up2 (up2 (up2 (up2 (up2 (up2 (up2 (up2 (up2 (up2 (up2 (up2 (up2 (up2 (up2 (up2 (up2 (up2 (up2 (up2 (up2 (up2 (up2 (up2 (up2 (fun _ _ => none) 0 0 (some 1)) 3 0 (some 4)) 3 1 (some 5)) 3 2 (some 6)) 2 0 (some 3)) 2 4 (some 7)) 0 2 (some 2)) 9 0 (some 10)) 9 1 (some 11)) 9 2 (some 12)) 9 3 (some 13)) 9 4 (some 14)) 8 0 (some 9)) 8 1 (some 15)) 8 2 (some 16)) 8 4 (some 17)) 8 5 (some 18)) 0 3 (some 8)) 19 0 (some 20)) 19 1 (some 21)) 19 2 (some 22)) 19 3 (some 23)) 19 4 (some 24)) 0 4 (some 19)) 25 0 (some 26)) 0 5 (some 25)) 27 0 (some 28)) 0 6 (some 27)) 0 7 (some 29)) 30 0 (some 31)) 29 0 (some 30)) 32 0 (some 33)) 29 1 (some 32)) 34 0 (some 35)) 29 2 (some 34)) 36 0 (some 37)) 29 3 (some 36)) 38 0 (some 39)) 29 4 (some 38)) 40 0 (some 41)) 29 5 (some 40)) 42 0 (some 43)) 29 6 (some 42)) 44 0 (some 45)) 29 7 (some 44)) 46 0 (some 47)) 29 8 (some 46)) 48 0 (some 49)) 29 9 (some 48)) 0 9 (some 50)) 51 0 (some 52)) 50 0 (some 51)) 53 0 (some 54)) 50 1 (some 53)) 55 0 (some 56)) 50 2 (some 55)) 57 0 (some 58)) 50 3 (some 57)) 0 10 (some 59)) 61 0 (some 62)) 60 0 (some 61)) 59 0 (some 60)) 64 0 (some 65)) 63 0 (some 64)) 59 1 (some 63)) 0 11 (some 66)) 0 12 (some 67)) 0 13 (some 68)) 69 1 (some 70)) 69 2 (some 71)) 69 3 (some 72)) 69 4 (some 73)) 69 16 (some 74)) 69 17 (some 75)) 69 20 (some 76)) 69 29 (some 77)) 69 33 (some 78)) 69 34 (some 79)) 69 35 (some 80)) 69 36 (some 81)) 69 37 (some 82)) 69 38 (some 83)) 69 39 (some 84)) 69 40 (some 85)) 69 41 (some 86)) 69 42 (some 87))
def iBS : Nat → Nat → Int32 := (up2 (up2 (up2 (up2 (up2 (up2 (up2 (up2 (up2 (up2 (up2 (up2 (up2 (up2 (up2 (up2 (up2 (up2 (up2 (up2 (up2 (up2 (up2 (flF (up2 (up2 (up2 (fun _ _ => 0) 2 3 (-1)) 9 5 (1)) 9 6 (1)) 15 100 99) 25 2 (-1)) 27 2 (-1)) 30 2 (-1)) 32 2 (-1)) 34 2 (-1)) 36 2 (-1)) 38 2 (-1)) 40 2 (-1)) 42 2 (-1)) 44 2 (-1)) 46 2 (-1)) 48 2 (-1)) 51 2 (-1)) 53 2 (-1)) 55 2 (-1)) 57 2 (-1)) 61 2 (-1)) 64 2 (-1)) 69 14 (-1)) 85 0 (-1)) 85 1 (-1)) 85 2 (-1)) 85 3 (-1))
def jBS : Nat → Nat → Int64 := (up2 (fun _ _ => 0) 8 3 (1))
set_option maxHeartbeats 4000000 in
set_option maxRecDepth 20000 in
theorem law_begin {t L : Nat} {xs : Nat → Int32} {P : Int32 × Sh × Me → Prop} (hK : ∀ T M, BS t kBS zBS rBS iBS jBS T M → Ok (Option.bind (fX12_plain T M (t + 70)) <| un2 fun _u M50 => jL_law_15 L xs T M50 (t + 0) (t + 69)) P) : Ok (fL_law L xs (T00 t) M00) P := by
  have h := bs_0 t
  generalize T00 t = T0 at h ⊢
  generalize M00 = M0 at h ⊢
  unfold fL_law jL_law_3
  rw [h.tpn (n := 0) rfl]
  replace h := bs_new 10 0 14 h
  generalize nT T0 10 0 14 = T1 at h ⊢
  generalize nM T0 M0 = M1 at h ⊢
  unfold fX11_init
  rw [h.tpn (n := 1) rfl]
  replace h := bs_new 12 900 900 h
  generalize nT T1 12 900 900 = T2 at h ⊢
  generalize nM T1 M1 = M2 at h ⊢
  unfold jX11_init_10
  first | rw [h.kk (o := 0) (k := 10) ⟨by decide, rfl⟩, gdI] | rw [gdI]
  rw [lte]
  replace h := bs_ref 0 0 1 h (by decide)
  generalize pR M2 (t + 0) 0 (some (t + 1)) = M3 at h ⊢
  rw [h.tpn (n := 2) rfl]
  replace h := bs_new 5 0 8 h
  generalize nT T2 5 0 8 = T3 at h ⊢
  generalize nM T2 M3 = M4 at h ⊢
  unfold jX11_init_17
  unfold fX6_init
  rw [h.tpn (n := 3) rfl]
  replace h := bs_new 8 0 4 h
  generalize nT T3 8 0 4 = T4 at h ⊢
  generalize nM T3 M4 = M5 at h ⊢
  unfold jX6_init_8 fX9_init
  rw [h.tpn (n := 4) rfl]
  replace h := bs_new 13 901 901 h
  generalize nT T4 13 901 901 = T5 at h ⊢
  generalize nM T4 M5 = M6 at h ⊢
  unfold jX9_init_10
  first | rw [h.kk (o := 3) (k := 8) ⟨by decide, rfl⟩, gdI] | rw [gdI]
  rw [lte]
  replace h := bs_ref 3 0 4 h (by decide)
  generalize pR M6 (t + 3) 0 (some (t + 4)) = M7 at h ⊢
  rw [h.tpn (n := 5) rfl]
  replace h := bs_new 13 901 901 h
  generalize nT T5 13 901 901 = T6 at h ⊢
  generalize nM T5 M7 = M8 at h ⊢
  unfold jX9_init_19
  first | rw [h.kk (o := 3) (k := 8) ⟨by decide, rfl⟩, gdI] | rw [gdI]
  rw [lte]
  replace h := bs_ref 3 1 5 h (by decide)
  generalize pR M8 (t + 3) 1 (some (t + 5)) = M9 at h ⊢
  rw [h.tpn (n := 6) rfl]
  replace h := bs_new 13 901 901 h
  generalize nT T6 13 901 901 = T7 at h ⊢
  generalize nM T6 M9 = M10 at h ⊢
  unfold jX9_init_28
  first | rw [h.kk (o := 3) (k := 8) ⟨by decide, rfl⟩, gdI] | rw [gdI]
  rw [lte]
  replace h := bs_ref 3 2 6 h (by decide)
  generalize pR M10 (t + 3) 2 (some (t + 6)) = M11 at h ⊢
  rw [Option.bind_some, une3]
  unfold jX6_init_12
  first | rw [h.kk (o := 2) (k := 5) ⟨by decide, rfl⟩, gdI] | rw [gdI]
  rw [lte]
  replace h := bs_ref 2 0 3 h (by decide)
  generalize pR M11 (t + 2) 0 (some (t + 3)) = M12 at h ⊢
  first | rw [h.kk (o := 2) (k := 5) ⟨by decide, rfl⟩, gdI] | rw [gdI]
  rw [lte]
  replace h := bs_int 2 3 (-1) h (by decide)
  generalize pI M12 (t + 2) 3 (-1) = M13 at h ⊢
  rw [h.tpn (n := 7) rfl]
  replace h := bs_new 13 900 900 h
  generalize nT T7 13 900 900 = T8 at h ⊢
  generalize nM T7 M13 = M14 at h ⊢
  unfold jX6_init_26
  first | rw [h.kk (o := 2) (k := 5) ⟨by decide, rfl⟩, gdI] | rw [gdI]
  rw [lte]
  replace h := bs_ref 2 4 7 h (by decide)
  generalize pR M14 (t + 2) 4 (some (t + 7)) = M15 at h ⊢
  rw [Option.bind_some, une3]
  unfold jX11_init_21
  first | rw [h.kk (o := 0) (k := 10) ⟨by decide, rfl⟩, gdI] | rw [gdI]
  rw [lte]
  replace h := bs_ref 0 2 2 h (by decide)
  generalize pR M15 (t + 0) 2 (some (t + 2)) = M16 at h ⊢
  rw [h.tpn (n := 8) rfl]
  replace h := bs_new 4 0 6 h
  generalize nT T8 4 0 6 = T9 at h ⊢
  generalize nM T8 M16 = M17 at h ⊢
  unfold jX11_init_28
  rw [h.tpn (n := 9) rfl]
  replace h := bs_new 2 0 13 h
  generalize nT T9 2 0 13 = T10 at h ⊢
  generalize nM T9 M17 = M18 at h ⊢
  unfold jX11_init_32 fX3_init
  rw [h.tpn (n := 10) rfl]
  replace h := bs_new 13 6 6 h
  generalize nT T10 13 6 6 = T11 at h ⊢
  generalize nM T10 M18 = M19 at h ⊢
  unfold jX3_init_9
  first | rw [h.kk (o := 9) (k := 2) ⟨by decide, rfl⟩, gdI] | rw [gdI]
  rw [lte]
  replace h := bs_ref 9 0 10 h (by decide)
  generalize pR M19 (t + 9) 0 (some (t + 10)) = M20 at h ⊢
  rw [h.tpn (n := 11) rfl]
  replace h := bs_new 13 6 6 h
  generalize nT T11 13 6 6 = T12 at h ⊢
  generalize nM T11 M20 = M21 at h ⊢
  unfold jX3_init_17
  first | rw [h.kk (o := 9) (k := 2) ⟨by decide, rfl⟩, gdI] | rw [gdI]
  rw [lte]
  replace h := bs_ref 9 1 11 h (by decide)
  generalize pR M21 (t + 9) 1 (some (t + 11)) = M22 at h ⊢
  rw [h.tpn (n := 12) rfl]
  replace h := bs_new 13 6 6 h
  generalize nT T12 13 6 6 = T13 at h ⊢
  generalize nM T12 M22 = M23 at h ⊢
  unfold jX3_init_25
  first | rw [h.kk (o := 9) (k := 2) ⟨by decide, rfl⟩, gdI] | rw [gdI]
  rw [lte]
  replace h := bs_ref 9 2 12 h (by decide)
  generalize pR M23 (t + 9) 2 (some (t + 12)) = M24 at h ⊢
  rw [h.tpn (n := 13) rfl]
  replace h := bs_new 13 6 6 h
  generalize nT T13 13 6 6 = T14 at h ⊢
  generalize nM T13 M24 = M25 at h ⊢
  unfold jX3_init_33
  first | rw [h.kk (o := 9) (k := 2) ⟨by decide, rfl⟩, gdI] | rw [gdI]
  rw [lte]
  replace h := bs_ref 9 3 13 h (by decide)
  generalize pR M25 (t + 9) 3 (some (t + 13)) = M26 at h ⊢
  rw [h.tpn (n := 14) rfl]
  replace h := bs_new 13 5 5 h
  generalize nT T14 13 5 5 = T15 at h ⊢
  generalize nM T14 M26 = M27 at h ⊢
  unfold jX3_init_40
  first | rw [h.kk (o := 9) (k := 2) ⟨by decide, rfl⟩, gdI] | rw [gdI]
  rw [lte]
  replace h := bs_ref 9 4 14 h (by decide)
  generalize pR M27 (t + 9) 4 (some (t + 14)) = M28 at h ⊢
  first | rw [h.kk (o := 9) (k := 2) ⟨by decide, rfl⟩, gdI] | rw [gdI]
  rw [lte]
  replace h := bs_int 9 5 (1) h (by decide)
  generalize pI M28 (t + 9) 5 (1) = M29 at h ⊢
  rw [lte]
  replace h := bs_int 9 6 (1) h (by decide)
  generalize pI M29 (t + 9) 6 (1) = M30 at h ⊢
  rw [Option.bind_some, une3]
  unfold jX11_init_36 fX5_init
  first | rw [h.kk (o := 8) (k := 4) ⟨by decide, rfl⟩, gdI] | rw [gdI]
  rw [lte]
  replace h := bs_ref 8 0 9 h (by decide)
  generalize pR M30 (t + 8) 0 (some (t + 9)) = M31 at h ⊢
  rw [h.tpn (n := 15) rfl]
  replace h := bs_new 13 100 100 h
  generalize nT T15 13 100 100 = T16 at h ⊢
  generalize nM T15 M31 = M32 at h ⊢
  unfold jX5_init_14
  first | rw [h.kk (o := 8) (k := 4) ⟨by decide, rfl⟩, gdI] | rw [gdI]
  rw [lte]
  replace h := bs_ref 8 1 15 h (by decide)
  generalize pR M32 (t + 8) 1 (some (t + 15)) = M33 at h ⊢
  first | rw [h.kk (o := 8) (k := 4) ⟨by decide, rfl⟩, gdI] | rw [gdI]
  rw [h.gr (o := 8) (f := 1) (s := 15) rfl, Option.bind_some]
  rw [fill_eq (h.kk (o := 15) (k := 13) ⟨by decide, rfl⟩) (h.ll (o := 15) (k := 100) ⟨by decide, rfl⟩) (by omega), Option.bind_some, une2]
  replace h := bs_fill 15 100 99 h (by decide)
  generalize pA M33 (t + 15) (fun k => if k < 100 then 99 else gI M33 (t + 15) k) = M34 at h ⊢
  rw [h.tpn (n := 16) rfl]
  replace h := bs_new 14 2976 2976 h
  generalize nT T16 14 2976 2976 = T17 at h ⊢
  generalize nM T16 M34 = M35 at h ⊢
  unfold jX5_init_32
  first | rw [h.kk (o := 8) (k := 4) ⟨by decide, rfl⟩, gdI] | rw [gdI]
  rw [lte]
  replace h := bs_ref 8 2 16 h (by decide)
  generalize pR M35 (t + 8) 2 (some (t + 16)) = M36 at h ⊢
  first | rw [h.kk (o := 8) (k := 4) ⟨by decide, rfl⟩, gdI] | rw [gdI]
  rw [lte]
  replace h := bs_lng 8 3 (1) h (by decide)
  generalize pJ M36 (t + 8) 3 (1) = M37 at h ⊢
  rw [h.tpn (n := 17) rfl]
  replace h := bs_new 13 8 8 h
  generalize nT T17 13 8 8 = T18 at h ⊢
  generalize nM T17 M37 = M38 at h ⊢
  unfold jX5_init_45
  first | rw [h.kk (o := 8) (k := 4) ⟨by decide, rfl⟩, gdI] | rw [gdI]
  rw [lte]
  replace h := bs_ref 8 4 17 h (by decide)
  generalize pR M38 (t + 8) 4 (some (t + 17)) = M39 at h ⊢
  rw [h.tpn (n := 18) rfl]
  replace h := bs_new 13 64 64 h
  generalize nT T18 13 64 64 = T19 at h ⊢
  generalize nM T18 M39 = M40 at h ⊢
  unfold jX5_init_53
  first | rw [h.kk (o := 8) (k := 4) ⟨by decide, rfl⟩, gdI] | rw [gdI]
  rw [lte]
  replace h := bs_ref 8 5 18 h (by decide)
  generalize pR M40 (t + 8) 5 (some (t + 18)) = M41 at h ⊢
  rw [Option.bind_some, une3]
  unfold jX11_init_39
  first | rw [h.kk (o := 0) (k := 10) ⟨by decide, rfl⟩, gdI] | rw [gdI]
  rw [lte]
  replace h := bs_ref 0 3 8 h (by decide)
  generalize pR M41 (t + 0) 3 (some (t + 8)) = M42 at h ⊢
  rw [h.tpn (n := 19) rfl]
  replace h := bs_new 6 0 14 h
  generalize nT T19 6 0 14 = T20 at h ⊢
  generalize nM T19 M42 = M43 at h ⊢
  unfold jX11_init_46 fX7_init
  rw [h.tpn (n := 20) rfl]
  replace h := bs_new 13 16 16 h
  generalize nT T20 13 16 16 = T21 at h ⊢
  generalize nM T20 M43 = M44 at h ⊢
  unfold jX7_init_9
  first | rw [h.kk (o := 19) (k := 6) ⟨by decide, rfl⟩, gdI] | rw [gdI]
  rw [lte]
  replace h := bs_ref 19 0 20 h (by decide)
  generalize pR M44 (t + 19) 0 (some (t + 20)) = M45 at h ⊢
  rw [h.tpn (n := 21) rfl]
  replace h := bs_new 13 384 384 h
  generalize nT T21 13 384 384 = T22 at h ⊢
  generalize nM T21 M45 = M46 at h ⊢
  unfold jX7_init_18
  first | rw [h.kk (o := 19) (k := 6) ⟨by decide, rfl⟩, gdI] | rw [gdI]
  rw [lte]
  replace h := bs_ref 19 1 21 h (by decide)
  generalize pR M46 (t + 19) 1 (some (t + 21)) = M47 at h ⊢
  rw [h.tpn (n := 22) rfl]
  replace h := bs_new 13 16 16 h
  generalize nT T22 13 16 16 = T23 at h ⊢
  generalize nM T22 M47 = M48 at h ⊢
  unfold jX7_init_26
  first | rw [h.kk (o := 19) (k := 6) ⟨by decide, rfl⟩, gdI] | rw [gdI]
  rw [lte]
  replace h := bs_ref 19 2 22 h (by decide)
  generalize pR M48 (t + 19) 2 (some (t + 22)) = M49 at h ⊢
  rw [h.tpn (n := 23) rfl]
  replace h := bs_new 14 468 468 h
  generalize nT T23 14 468 468 = T24 at h ⊢
  generalize nM T23 M49 = M50 at h ⊢
  unfold jX7_init_35
  first | rw [h.kk (o := 19) (k := 6) ⟨by decide, rfl⟩, gdI] | rw [gdI]
  rw [lte]
  replace h := bs_ref 19 3 23 h (by decide)
  generalize pR M50 (t + 19) 3 (some (t + 23)) = M51 at h ⊢
  rw [h.tpn (n := 24) rfl]
  replace h := bs_new 14 468 468 h
  generalize nT T24 14 468 468 = T25 at h ⊢
  generalize nM T24 M51 = M52 at h ⊢
  unfold jX7_init_44
  first | rw [h.kk (o := 19) (k := 6) ⟨by decide, rfl⟩, gdI] | rw [gdI]
  rw [lte]
  replace h := bs_ref 19 4 24 h (by decide)
  generalize pR M52 (t + 19) 4 (some (t + 24)) = M53 at h ⊢
  rw [Option.bind_some, une3]
  unfold jX11_init_50
  first | rw [h.kk (o := 0) (k := 10) ⟨by decide, rfl⟩, gdI] | rw [gdI]
  rw [lte]
  replace h := bs_ref 0 4 19 h (by decide)
  generalize pR M53 (t + 0) 4 (some (t + 19)) = M54 at h ⊢
  rw [h.tpn (n := 25) rfl]
  replace h := bs_new 7 0 3 h
  generalize nT T25 7 0 3 = T26 at h ⊢
  generalize nM T25 M54 = M55 at h ⊢
  unfold jX11_init_57
  unfold fX8_init
  rw [h.tpn (n := 26) rfl]
  replace h := bs_new 13 6 6 h
  generalize nT T26 13 6 6 = T27 at h ⊢
  generalize nM T26 M55 = M56 at h ⊢
  unfold jX8_init_9
  first | rw [h.kk (o := 25) (k := 7) ⟨by decide, rfl⟩, gdI] | rw [gdI]
  rw [lte]
  replace h := bs_ref 25 0 26 h (by decide)
  generalize pR M56 (t + 25) 0 (some (t + 26)) = M57 at h ⊢
  first | rw [h.kk (o := 25) (k := 7) ⟨by decide, rfl⟩, gdI] | rw [gdI]
  rw [lte]
  replace h := bs_int 25 2 (-1) h (by decide)
  generalize pI M57 (t + 25) 2 (-1) = M58 at h ⊢
  rw [Option.bind_some, une3]
  unfold jX11_init_61
  first | rw [h.kk (o := 0) (k := 10) ⟨by decide, rfl⟩, gdI] | rw [gdI]
  rw [lte]
  replace h := bs_ref 0 5 25 h (by decide)
  generalize pR M58 (t + 0) 5 (some (t + 25)) = M59 at h ⊢
  rw [h.tpn (n := 27) rfl]
  replace h := bs_new 7 0 3 h
  generalize nT T27 7 0 3 = T28 at h ⊢
  generalize nM T27 M59 = M60 at h ⊢
  unfold jX11_init_68
  unfold fX8_init
  rw [h.tpn (n := 28) rfl]
  replace h := bs_new 13 6 6 h
  generalize nT T28 13 6 6 = T29 at h ⊢
  generalize nM T28 M60 = M61 at h ⊢
  unfold jX8_init_9
  first | rw [h.kk (o := 27) (k := 7) ⟨by decide, rfl⟩, gdI] | rw [gdI]
  rw [lte]
  replace h := bs_ref 27 0 28 h (by decide)
  generalize pR M61 (t + 27) 0 (some (t + 28)) = M62 at h ⊢
  first | rw [h.kk (o := 27) (k := 7) ⟨by decide, rfl⟩, gdI] | rw [gdI]
  rw [lte]
  replace h := bs_int 27 2 (-1) h (by decide)
  generalize pI M62 (t + 27) 2 (-1) = M63 at h ⊢
  rw [Option.bind_some, une3]
  unfold jX11_init_72
  first | rw [h.kk (o := 0) (k := 10) ⟨by decide, rfl⟩, gdI] | rw [gdI]
  rw [lte]
  replace h := bs_ref 0 6 27 h (by decide)
  generalize pR M63 (t + 0) 6 (some (t + 27)) = M64 at h ⊢
  rw [h.tpn (n := 29) rfl]
  replace h := bs_new 17 10 10 h
  generalize nT T29 17 10 10 = T30 at h ⊢
  generalize nM T29 M64 = M65 at h ⊢
  unfold jX11_init_81
  first | rw [h.kk (o := 0) (k := 10) ⟨by decide, rfl⟩, gdI] | rw [gdI]
  rw [lte]
  replace h := bs_ref 0 7 29 h (by decide)
  generalize pR M65 (t + 0) 7 (some (t + 29)) = M66 at h ⊢
  refine ok_bind.mpr (ok_bind.mpr ?_)
  show Ok (lp (999989 + 11) _ (nI 0, T30, M66)) _
  refine ok_lpS ?_
  show Ok (bX11_init_86 (t + 0) (nI 0) T30 M66) _
  unfold bX11_init_86
  rw [if_neg (by decide)]
  first | rw [h.kk (o := 0) (k := 10) ⟨by decide, rfl⟩, gdI] | rw [gdI]
  rw [h.gr (o := 0) (f := 7) (s := 29) rfl, Option.bind_some]
  rw [h.tpn (n := 30) rfl]
  replace h := bs_new 7 0 3 h
  generalize nT T30 7 0 3 = T31 at h ⊢
  generalize nM T30 M66 = M67 at h ⊢
  unfold jX11_init_100
  unfold fX8_init
  rw [h.tpn (n := 31) rfl]
  replace h := bs_new 13 6 6 h
  generalize nT T31 13 6 6 = T32 at h ⊢
  generalize nM T31 M67 = M68 at h ⊢
  unfold jX8_init_9
  first | rw [h.kk (o := 30) (k := 7) ⟨by decide, rfl⟩, gdI] | rw [gdI]
  rw [lte]
  replace h := bs_ref 30 0 31 h (by decide)
  generalize pR M68 (t + 30) 0 (some (t + 31)) = M69 at h ⊢
  first | rw [h.kk (o := 30) (k := 7) ⟨by decide, rfl⟩, gdI] | rw [gdI]
  rw [lte]
  replace h := bs_int 30 2 (-1) h (by decide)
  generalize pI M69 (t + 30) 2 (-1) = M70 at h ⊢
  rw [Option.bind_some, une3]
  unfold jX11_init_104
  first | rw [h.kk (o := 29) (k := 17) ⟨by decide, rfl⟩, gdI] | rw [gdI]
  first | rw [h.kk (o := 30) (k := 7) ⟨by decide, rfl⟩, gdI] | rw [gdI]
  rw [h.ll (o := 29) (k := 10) ⟨by decide, rfl⟩, gvI (by omega) (by omega), cl_nI (by omega)]
  rw [lte]
  replace h := bs_ref 29 0 30 h (by decide)
  generalize pR M70 (t + 29) 0 (some (t + 30)) = M71 at h ⊢
  rw [lte]
  refine ok_i ?_
  show Ok (lp (999989 + 10) _ (nI 1, T32, M71)) _
  refine ok_lpS ?_
  show Ok (bX11_init_86 (t + 0) (nI 1) T32 M71) _
  unfold bX11_init_86
  rw [if_neg (by decide)]
  first | rw [h.kk (o := 0) (k := 10) ⟨by decide, rfl⟩, gdI] | rw [gdI]
  rw [h.gr (o := 0) (f := 7) (s := 29) rfl, Option.bind_some]
  rw [h.tpn (n := 32) rfl]
  replace h := bs_new 7 0 3 h
  generalize nT T32 7 0 3 = T33 at h ⊢
  generalize nM T32 M71 = M72 at h ⊢
  unfold jX11_init_100
  unfold fX8_init
  rw [h.tpn (n := 33) rfl]
  replace h := bs_new 13 6 6 h
  generalize nT T33 13 6 6 = T34 at h ⊢
  generalize nM T33 M72 = M73 at h ⊢
  unfold jX8_init_9
  first | rw [h.kk (o := 32) (k := 7) ⟨by decide, rfl⟩, gdI] | rw [gdI]
  rw [lte]
  replace h := bs_ref 32 0 33 h (by decide)
  generalize pR M73 (t + 32) 0 (some (t + 33)) = M74 at h ⊢
  first | rw [h.kk (o := 32) (k := 7) ⟨by decide, rfl⟩, gdI] | rw [gdI]
  rw [lte]
  replace h := bs_int 32 2 (-1) h (by decide)
  generalize pI M74 (t + 32) 2 (-1) = M75 at h ⊢
  rw [Option.bind_some, une3]
  unfold jX11_init_104
  first | rw [h.kk (o := 29) (k := 17) ⟨by decide, rfl⟩, gdI] | rw [gdI]
  first | rw [h.kk (o := 32) (k := 7) ⟨by decide, rfl⟩, gdI] | rw [gdI]
  rw [h.ll (o := 29) (k := 10) ⟨by decide, rfl⟩, gvI (by omega) (by omega), cl_nI (by omega)]
  rw [lte]
  replace h := bs_ref 29 1 32 h (by decide)
  generalize pR M75 (t + 29) 1 (some (t + 32)) = M76 at h ⊢
  rw [lte]
  refine ok_i ?_
  show Ok (lp (999989 + 9) _ (nI 2, T34, M76)) _
  refine ok_lpS ?_
  show Ok (bX11_init_86 (t + 0) (nI 2) T34 M76) _
  unfold bX11_init_86
  rw [if_neg (by decide)]
  first | rw [h.kk (o := 0) (k := 10) ⟨by decide, rfl⟩, gdI] | rw [gdI]
  rw [h.gr (o := 0) (f := 7) (s := 29) rfl, Option.bind_some]
  rw [h.tpn (n := 34) rfl]
  replace h := bs_new 7 0 3 h
  generalize nT T34 7 0 3 = T35 at h ⊢
  generalize nM T34 M76 = M77 at h ⊢
  unfold jX11_init_100
  unfold fX8_init
  rw [h.tpn (n := 35) rfl]
  replace h := bs_new 13 6 6 h
  generalize nT T35 13 6 6 = T36 at h ⊢
  generalize nM T35 M77 = M78 at h ⊢
  unfold jX8_init_9
  first | rw [h.kk (o := 34) (k := 7) ⟨by decide, rfl⟩, gdI] | rw [gdI]
  rw [lte]
  replace h := bs_ref 34 0 35 h (by decide)
  generalize pR M78 (t + 34) 0 (some (t + 35)) = M79 at h ⊢
  first | rw [h.kk (o := 34) (k := 7) ⟨by decide, rfl⟩, gdI] | rw [gdI]
  rw [lte]
  replace h := bs_int 34 2 (-1) h (by decide)
  generalize pI M79 (t + 34) 2 (-1) = M80 at h ⊢
  rw [Option.bind_some, une3]
  unfold jX11_init_104
  first | rw [h.kk (o := 29) (k := 17) ⟨by decide, rfl⟩, gdI] | rw [gdI]
  first | rw [h.kk (o := 34) (k := 7) ⟨by decide, rfl⟩, gdI] | rw [gdI]
  rw [h.ll (o := 29) (k := 10) ⟨by decide, rfl⟩, gvI (by omega) (by omega), cl_nI (by omega)]
  rw [lte]
  replace h := bs_ref 29 2 34 h (by decide)
  generalize pR M80 (t + 29) 2 (some (t + 34)) = M81 at h ⊢
  rw [lte]
  refine ok_i ?_
  show Ok (lp (999989 + 8) _ (nI 3, T36, M81)) _
  refine ok_lpS ?_
  show Ok (bX11_init_86 (t + 0) (nI 3) T36 M81) _
  unfold bX11_init_86
  rw [if_neg (by decide)]
  first | rw [h.kk (o := 0) (k := 10) ⟨by decide, rfl⟩, gdI] | rw [gdI]
  rw [h.gr (o := 0) (f := 7) (s := 29) rfl, Option.bind_some]
  rw [h.tpn (n := 36) rfl]
  replace h := bs_new 7 0 3 h
  generalize nT T36 7 0 3 = T37 at h ⊢
  generalize nM T36 M81 = M82 at h ⊢
  unfold jX11_init_100
  unfold fX8_init
  rw [h.tpn (n := 37) rfl]
  replace h := bs_new 13 6 6 h
  generalize nT T37 13 6 6 = T38 at h ⊢
  generalize nM T37 M82 = M83 at h ⊢
  unfold jX8_init_9
  first | rw [h.kk (o := 36) (k := 7) ⟨by decide, rfl⟩, gdI] | rw [gdI]
  rw [lte]
  replace h := bs_ref 36 0 37 h (by decide)
  generalize pR M83 (t + 36) 0 (some (t + 37)) = M84 at h ⊢
  first | rw [h.kk (o := 36) (k := 7) ⟨by decide, rfl⟩, gdI] | rw [gdI]
  rw [lte]
  replace h := bs_int 36 2 (-1) h (by decide)
  generalize pI M84 (t + 36) 2 (-1) = M85 at h ⊢
  rw [Option.bind_some, une3]
  unfold jX11_init_104
  first | rw [h.kk (o := 29) (k := 17) ⟨by decide, rfl⟩, gdI] | rw [gdI]
  first | rw [h.kk (o := 36) (k := 7) ⟨by decide, rfl⟩, gdI] | rw [gdI]
  rw [h.ll (o := 29) (k := 10) ⟨by decide, rfl⟩, gvI (by omega) (by omega), cl_nI (by omega)]
  rw [lte]
  replace h := bs_ref 29 3 36 h (by decide)
  generalize pR M85 (t + 29) 3 (some (t + 36)) = M86 at h ⊢
  rw [lte]
  refine ok_i ?_
  show Ok (lp (999989 + 7) _ (nI 4, T38, M86)) _
  refine ok_lpS ?_
  show Ok (bX11_init_86 (t + 0) (nI 4) T38 M86) _
  unfold bX11_init_86
  rw [if_neg (by decide)]
  first | rw [h.kk (o := 0) (k := 10) ⟨by decide, rfl⟩, gdI] | rw [gdI]
  rw [h.gr (o := 0) (f := 7) (s := 29) rfl, Option.bind_some]
  rw [h.tpn (n := 38) rfl]
  replace h := bs_new 7 0 3 h
  generalize nT T38 7 0 3 = T39 at h ⊢
  generalize nM T38 M86 = M87 at h ⊢
  unfold jX11_init_100
  unfold fX8_init
  rw [h.tpn (n := 39) rfl]
  replace h := bs_new 13 6 6 h
  generalize nT T39 13 6 6 = T40 at h ⊢
  generalize nM T39 M87 = M88 at h ⊢
  unfold jX8_init_9
  first | rw [h.kk (o := 38) (k := 7) ⟨by decide, rfl⟩, gdI] | rw [gdI]
  rw [lte]
  replace h := bs_ref 38 0 39 h (by decide)
  generalize pR M88 (t + 38) 0 (some (t + 39)) = M89 at h ⊢
  first | rw [h.kk (o := 38) (k := 7) ⟨by decide, rfl⟩, gdI] | rw [gdI]
  rw [lte]
  replace h := bs_int 38 2 (-1) h (by decide)
  generalize pI M89 (t + 38) 2 (-1) = M90 at h ⊢
  rw [Option.bind_some, une3]
  unfold jX11_init_104
  first | rw [h.kk (o := 29) (k := 17) ⟨by decide, rfl⟩, gdI] | rw [gdI]
  first | rw [h.kk (o := 38) (k := 7) ⟨by decide, rfl⟩, gdI] | rw [gdI]
  rw [h.ll (o := 29) (k := 10) ⟨by decide, rfl⟩, gvI (by omega) (by omega), cl_nI (by omega)]
  rw [lte]
  replace h := bs_ref 29 4 38 h (by decide)
  generalize pR M90 (t + 29) 4 (some (t + 38)) = M91 at h ⊢
  rw [lte]
  refine ok_i ?_
  show Ok (lp (999989 + 6) _ (nI 5, T40, M91)) _
  refine ok_lpS ?_
  show Ok (bX11_init_86 (t + 0) (nI 5) T40 M91) _
  unfold bX11_init_86
  rw [if_neg (by decide)]
  first | rw [h.kk (o := 0) (k := 10) ⟨by decide, rfl⟩, gdI] | rw [gdI]
  rw [h.gr (o := 0) (f := 7) (s := 29) rfl, Option.bind_some]
  rw [h.tpn (n := 40) rfl]
  replace h := bs_new 7 0 3 h
  generalize nT T40 7 0 3 = T41 at h ⊢
  generalize nM T40 M91 = M92 at h ⊢
  unfold jX11_init_100
  unfold fX8_init
  rw [h.tpn (n := 41) rfl]
  replace h := bs_new 13 6 6 h
  generalize nT T41 13 6 6 = T42 at h ⊢
  generalize nM T41 M92 = M93 at h ⊢
  unfold jX8_init_9
  first | rw [h.kk (o := 40) (k := 7) ⟨by decide, rfl⟩, gdI] | rw [gdI]
  rw [lte]
  replace h := bs_ref 40 0 41 h (by decide)
  generalize pR M93 (t + 40) 0 (some (t + 41)) = M94 at h ⊢
  first | rw [h.kk (o := 40) (k := 7) ⟨by decide, rfl⟩, gdI] | rw [gdI]
  rw [lte]
  replace h := bs_int 40 2 (-1) h (by decide)
  generalize pI M94 (t + 40) 2 (-1) = M95 at h ⊢
  rw [Option.bind_some, une3]
  unfold jX11_init_104
  first | rw [h.kk (o := 29) (k := 17) ⟨by decide, rfl⟩, gdI] | rw [gdI]
  first | rw [h.kk (o := 40) (k := 7) ⟨by decide, rfl⟩, gdI] | rw [gdI]
  rw [h.ll (o := 29) (k := 10) ⟨by decide, rfl⟩, gvI (by omega) (by omega), cl_nI (by omega)]
  rw [lte]
  replace h := bs_ref 29 5 40 h (by decide)
  generalize pR M95 (t + 29) 5 (some (t + 40)) = M96 at h ⊢
  rw [lte]
  refine ok_i ?_
  show Ok (lp (999989 + 5) _ (nI 6, T42, M96)) _
  refine ok_lpS ?_
  show Ok (bX11_init_86 (t + 0) (nI 6) T42 M96) _
  unfold bX11_init_86
  rw [if_neg (by decide)]
  first | rw [h.kk (o := 0) (k := 10) ⟨by decide, rfl⟩, gdI] | rw [gdI]
  rw [h.gr (o := 0) (f := 7) (s := 29) rfl, Option.bind_some]
  rw [h.tpn (n := 42) rfl]
  replace h := bs_new 7 0 3 h
  generalize nT T42 7 0 3 = T43 at h ⊢
  generalize nM T42 M96 = M97 at h ⊢
  unfold jX11_init_100
  unfold fX8_init
  rw [h.tpn (n := 43) rfl]
  replace h := bs_new 13 6 6 h
  generalize nT T43 13 6 6 = T44 at h ⊢
  generalize nM T43 M97 = M98 at h ⊢
  unfold jX8_init_9
  first | rw [h.kk (o := 42) (k := 7) ⟨by decide, rfl⟩, gdI] | rw [gdI]
  rw [lte]
  replace h := bs_ref 42 0 43 h (by decide)
  generalize pR M98 (t + 42) 0 (some (t + 43)) = M99 at h ⊢
  first | rw [h.kk (o := 42) (k := 7) ⟨by decide, rfl⟩, gdI] | rw [gdI]
  rw [lte]
  replace h := bs_int 42 2 (-1) h (by decide)
  generalize pI M99 (t + 42) 2 (-1) = M100 at h ⊢
  rw [Option.bind_some, une3]
  unfold jX11_init_104
  first | rw [h.kk (o := 29) (k := 17) ⟨by decide, rfl⟩, gdI] | rw [gdI]
  first | rw [h.kk (o := 42) (k := 7) ⟨by decide, rfl⟩, gdI] | rw [gdI]
  rw [h.ll (o := 29) (k := 10) ⟨by decide, rfl⟩, gvI (by omega) (by omega), cl_nI (by omega)]
  rw [lte]
  replace h := bs_ref 29 6 42 h (by decide)
  generalize pR M100 (t + 29) 6 (some (t + 42)) = M101 at h ⊢
  rw [lte]
  refine ok_i ?_
  show Ok (lp (999989 + 4) _ (nI 7, T44, M101)) _
  refine ok_lpS ?_
  show Ok (bX11_init_86 (t + 0) (nI 7) T44 M101) _
  unfold bX11_init_86
  rw [if_neg (by decide)]
  first | rw [h.kk (o := 0) (k := 10) ⟨by decide, rfl⟩, gdI] | rw [gdI]
  rw [h.gr (o := 0) (f := 7) (s := 29) rfl, Option.bind_some]
  rw [h.tpn (n := 44) rfl]
  replace h := bs_new 7 0 3 h
  generalize nT T44 7 0 3 = T45 at h ⊢
  generalize nM T44 M101 = M102 at h ⊢
  unfold jX11_init_100
  unfold fX8_init
  rw [h.tpn (n := 45) rfl]
  replace h := bs_new 13 6 6 h
  generalize nT T45 13 6 6 = T46 at h ⊢
  generalize nM T45 M102 = M103 at h ⊢
  unfold jX8_init_9
  first | rw [h.kk (o := 44) (k := 7) ⟨by decide, rfl⟩, gdI] | rw [gdI]
  rw [lte]
  replace h := bs_ref 44 0 45 h (by decide)
  generalize pR M103 (t + 44) 0 (some (t + 45)) = M104 at h ⊢
  first | rw [h.kk (o := 44) (k := 7) ⟨by decide, rfl⟩, gdI] | rw [gdI]
  rw [lte]
  replace h := bs_int 44 2 (-1) h (by decide)
  generalize pI M104 (t + 44) 2 (-1) = M105 at h ⊢
  rw [Option.bind_some, une3]
  unfold jX11_init_104
  first | rw [h.kk (o := 29) (k := 17) ⟨by decide, rfl⟩, gdI] | rw [gdI]
  first | rw [h.kk (o := 44) (k := 7) ⟨by decide, rfl⟩, gdI] | rw [gdI]
  rw [h.ll (o := 29) (k := 10) ⟨by decide, rfl⟩, gvI (by omega) (by omega), cl_nI (by omega)]
  rw [lte]
  replace h := bs_ref 29 7 44 h (by decide)
  generalize pR M105 (t + 29) 7 (some (t + 44)) = M106 at h ⊢
  rw [lte]
  refine ok_i ?_
  show Ok (lp (999989 + 3) _ (nI 8, T46, M106)) _
  refine ok_lpS ?_
  show Ok (bX11_init_86 (t + 0) (nI 8) T46 M106) _
  unfold bX11_init_86
  rw [if_neg (by decide)]
  first | rw [h.kk (o := 0) (k := 10) ⟨by decide, rfl⟩, gdI] | rw [gdI]
  rw [h.gr (o := 0) (f := 7) (s := 29) rfl, Option.bind_some]
  rw [h.tpn (n := 46) rfl]
  replace h := bs_new 7 0 3 h
  generalize nT T46 7 0 3 = T47 at h ⊢
  generalize nM T46 M106 = M107 at h ⊢
  unfold jX11_init_100
  unfold fX8_init
  rw [h.tpn (n := 47) rfl]
  replace h := bs_new 13 6 6 h
  generalize nT T47 13 6 6 = T48 at h ⊢
  generalize nM T47 M107 = M108 at h ⊢
  unfold jX8_init_9
  first | rw [h.kk (o := 46) (k := 7) ⟨by decide, rfl⟩, gdI] | rw [gdI]
  rw [lte]
  replace h := bs_ref 46 0 47 h (by decide)
  generalize pR M108 (t + 46) 0 (some (t + 47)) = M109 at h ⊢
  first | rw [h.kk (o := 46) (k := 7) ⟨by decide, rfl⟩, gdI] | rw [gdI]
  rw [lte]
  replace h := bs_int 46 2 (-1) h (by decide)
  generalize pI M109 (t + 46) 2 (-1) = M110 at h ⊢
  rw [Option.bind_some, une3]
  unfold jX11_init_104
  first | rw [h.kk (o := 29) (k := 17) ⟨by decide, rfl⟩, gdI] | rw [gdI]
  first | rw [h.kk (o := 46) (k := 7) ⟨by decide, rfl⟩, gdI] | rw [gdI]
  rw [h.ll (o := 29) (k := 10) ⟨by decide, rfl⟩, gvI (by omega) (by omega), cl_nI (by omega)]
  rw [lte]
  replace h := bs_ref 29 8 46 h (by decide)
  generalize pR M110 (t + 29) 8 (some (t + 46)) = M111 at h ⊢
  rw [lte]
  refine ok_i ?_
  show Ok (lp (999989 + 2) _ (nI 9, T48, M111)) _
  refine ok_lpS ?_
  show Ok (bX11_init_86 (t + 0) (nI 9) T48 M111) _
  unfold bX11_init_86
  rw [if_neg (by decide)]
  first | rw [h.kk (o := 0) (k := 10) ⟨by decide, rfl⟩, gdI] | rw [gdI]
  rw [h.gr (o := 0) (f := 7) (s := 29) rfl, Option.bind_some]
  rw [h.tpn (n := 48) rfl]
  replace h := bs_new 7 0 3 h
  generalize nT T48 7 0 3 = T49 at h ⊢
  generalize nM T48 M111 = M112 at h ⊢
  unfold jX11_init_100
  unfold fX8_init
  rw [h.tpn (n := 49) rfl]
  replace h := bs_new 13 6 6 h
  generalize nT T49 13 6 6 = T50 at h ⊢
  generalize nM T49 M112 = M113 at h ⊢
  unfold jX8_init_9
  first | rw [h.kk (o := 48) (k := 7) ⟨by decide, rfl⟩, gdI] | rw [gdI]
  rw [lte]
  replace h := bs_ref 48 0 49 h (by decide)
  generalize pR M113 (t + 48) 0 (some (t + 49)) = M114 at h ⊢
  first | rw [h.kk (o := 48) (k := 7) ⟨by decide, rfl⟩, gdI] | rw [gdI]
  rw [lte]
  replace h := bs_int 48 2 (-1) h (by decide)
  generalize pI M114 (t + 48) 2 (-1) = M115 at h ⊢
  rw [Option.bind_some, une3]
  unfold jX11_init_104
  first | rw [h.kk (o := 29) (k := 17) ⟨by decide, rfl⟩, gdI] | rw [gdI]
  first | rw [h.kk (o := 48) (k := 7) ⟨by decide, rfl⟩, gdI] | rw [gdI]
  rw [h.ll (o := 29) (k := 10) ⟨by decide, rfl⟩, gvI (by omega) (by omega), cl_nI (by omega)]
  rw [lte]
  replace h := bs_ref 29 9 48 h (by decide)
  generalize pR M115 (t + 29) 9 (some (t + 48)) = M116 at h ⊢
  rw [lte]
  refine ok_i ?_
  show Ok (lp (999989 + 1) _ (nI 10, T50, M116)) _
  refine ok_lpS ?_
  show Ok (bX11_init_86 (t + 0) (nI 10) T50 M116) _
  unfold bX11_init_86
  rw [if_pos (by decide)]
  refine ok_i ?_
  show Ok (un2 _ (T50, M116)) _
  rw [une2]
  unfold jX11_init_111
  rw [h.tpn (n := 50) rfl]
  replace h := bs_new 18 4 4 h
  generalize nT T50 18 4 4 = T51 at h ⊢
  generalize nM T50 M116 = M117 at h ⊢
  unfold jX11_init_116
  first | rw [h.kk (o := 0) (k := 10) ⟨by decide, rfl⟩, gdI] | rw [gdI]
  rw [lte]
  replace h := bs_ref 0 9 50 h (by decide)
  generalize pR M117 (t + 0) 9 (some (t + 50)) = M118 at h ⊢
  refine ok_bind.mpr ?_
  show Ok (lp (999995 + 5) _ (nI 0, T51, M118)) _
  refine ok_lpS ?_
  show Ok (bX11_init_121 (t + 0) (nI 0) T51 M118) _
  unfold bX11_init_121
  rw [if_neg (by decide)]
  first | rw [h.kk (o := 0) (k := 10) ⟨by decide, rfl⟩, gdI] | rw [gdI]
  rw [h.gr (o := 0) (f := 9) (s := 50) rfl, Option.bind_some]
  rw [h.tpn (n := 51) rfl]
  replace h := bs_new 9 0 3 h
  generalize nT T51 9 0 3 = T52 at h ⊢
  generalize nM T51 M118 = M119 at h ⊢
  unfold jX11_init_134 fX10_init
  rw [h.tpn (n := 52) rfl]
  replace h := bs_new 14 40 40 h
  generalize nT T52 14 40 40 = T53 at h ⊢
  generalize nM T52 M119 = M120 at h ⊢
  unfold jX10_init_9
  first | rw [h.kk (o := 51) (k := 9) ⟨by decide, rfl⟩, gdI] | rw [gdI]
  rw [lte]
  replace h := bs_ref 51 0 52 h (by decide)
  generalize pR M120 (t + 51) 0 (some (t + 52)) = M121 at h ⊢
  first | rw [h.kk (o := 51) (k := 9) ⟨by decide, rfl⟩, gdI] | rw [gdI]
  rw [lte]
  replace h := bs_int 51 2 (-1) h (by decide)
  generalize pI M121 (t + 51) 2 (-1) = M122 at h ⊢
  rw [Option.bind_some, une3]
  unfold jX11_init_138
  first | rw [h.kk (o := 50) (k := 18) ⟨by decide, rfl⟩, gdI] | rw [gdI]
  first | rw [h.kk (o := 51) (k := 9) ⟨by decide, rfl⟩, gdI] | rw [gdI]
  rw [h.ll (o := 50) (k := 4) ⟨by decide, rfl⟩, gvI (by omega) (by omega), cl_nI (by omega)]
  rw [lte]
  replace h := bs_ref 50 0 51 h (by decide)
  generalize pR M122 (t + 50) 0 (some (t + 51)) = M123 at h ⊢
  rw [lte]
  refine ok_i ?_
  show Ok (lp (999995 + 4) _ (nI 1, T53, M123)) _
  refine ok_lpS ?_
  show Ok (bX11_init_121 (t + 0) (nI 1) T53 M123) _
  unfold bX11_init_121
  rw [if_neg (by decide)]
  first | rw [h.kk (o := 0) (k := 10) ⟨by decide, rfl⟩, gdI] | rw [gdI]
  rw [h.gr (o := 0) (f := 9) (s := 50) rfl, Option.bind_some]
  rw [h.tpn (n := 53) rfl]
  replace h := bs_new 9 0 3 h
  generalize nT T53 9 0 3 = T54 at h ⊢
  generalize nM T53 M123 = M124 at h ⊢
  unfold jX11_init_134 fX10_init
  rw [h.tpn (n := 54) rfl]
  replace h := bs_new 14 40 40 h
  generalize nT T54 14 40 40 = T55 at h ⊢
  generalize nM T54 M124 = M125 at h ⊢
  unfold jX10_init_9
  first | rw [h.kk (o := 53) (k := 9) ⟨by decide, rfl⟩, gdI] | rw [gdI]
  rw [lte]
  replace h := bs_ref 53 0 54 h (by decide)
  generalize pR M125 (t + 53) 0 (some (t + 54)) = M126 at h ⊢
  first | rw [h.kk (o := 53) (k := 9) ⟨by decide, rfl⟩, gdI] | rw [gdI]
  rw [lte]
  replace h := bs_int 53 2 (-1) h (by decide)
  generalize pI M126 (t + 53) 2 (-1) = M127 at h ⊢
  rw [Option.bind_some, une3]
  unfold jX11_init_138
  first | rw [h.kk (o := 50) (k := 18) ⟨by decide, rfl⟩, gdI] | rw [gdI]
  first | rw [h.kk (o := 53) (k := 9) ⟨by decide, rfl⟩, gdI] | rw [gdI]
  rw [h.ll (o := 50) (k := 4) ⟨by decide, rfl⟩, gvI (by omega) (by omega), cl_nI (by omega)]
  rw [lte]
  replace h := bs_ref 50 1 53 h (by decide)
  generalize pR M127 (t + 50) 1 (some (t + 53)) = M128 at h ⊢
  rw [lte]
  refine ok_i ?_
  show Ok (lp (999995 + 3) _ (nI 2, T55, M128)) _
  refine ok_lpS ?_
  show Ok (bX11_init_121 (t + 0) (nI 2) T55 M128) _
  unfold bX11_init_121
  rw [if_neg (by decide)]
  first | rw [h.kk (o := 0) (k := 10) ⟨by decide, rfl⟩, gdI] | rw [gdI]
  rw [h.gr (o := 0) (f := 9) (s := 50) rfl, Option.bind_some]
  rw [h.tpn (n := 55) rfl]
  replace h := bs_new 9 0 3 h
  generalize nT T55 9 0 3 = T56 at h ⊢
  generalize nM T55 M128 = M129 at h ⊢
  unfold jX11_init_134 fX10_init
  rw [h.tpn (n := 56) rfl]
  replace h := bs_new 14 40 40 h
  generalize nT T56 14 40 40 = T57 at h ⊢
  generalize nM T56 M129 = M130 at h ⊢
  unfold jX10_init_9
  first | rw [h.kk (o := 55) (k := 9) ⟨by decide, rfl⟩, gdI] | rw [gdI]
  rw [lte]
  replace h := bs_ref 55 0 56 h (by decide)
  generalize pR M130 (t + 55) 0 (some (t + 56)) = M131 at h ⊢
  first | rw [h.kk (o := 55) (k := 9) ⟨by decide, rfl⟩, gdI] | rw [gdI]
  rw [lte]
  replace h := bs_int 55 2 (-1) h (by decide)
  generalize pI M131 (t + 55) 2 (-1) = M132 at h ⊢
  rw [Option.bind_some, une3]
  unfold jX11_init_138
  first | rw [h.kk (o := 50) (k := 18) ⟨by decide, rfl⟩, gdI] | rw [gdI]
  first | rw [h.kk (o := 55) (k := 9) ⟨by decide, rfl⟩, gdI] | rw [gdI]
  rw [h.ll (o := 50) (k := 4) ⟨by decide, rfl⟩, gvI (by omega) (by omega), cl_nI (by omega)]
  rw [lte]
  replace h := bs_ref 50 2 55 h (by decide)
  generalize pR M132 (t + 50) 2 (some (t + 55)) = M133 at h ⊢
  rw [lte]
  refine ok_i ?_
  show Ok (lp (999995 + 2) _ (nI 3, T57, M133)) _
  refine ok_lpS ?_
  show Ok (bX11_init_121 (t + 0) (nI 3) T57 M133) _
  unfold bX11_init_121
  rw [if_neg (by decide)]
  first | rw [h.kk (o := 0) (k := 10) ⟨by decide, rfl⟩, gdI] | rw [gdI]
  rw [h.gr (o := 0) (f := 9) (s := 50) rfl, Option.bind_some]
  rw [h.tpn (n := 57) rfl]
  replace h := bs_new 9 0 3 h
  generalize nT T57 9 0 3 = T58 at h ⊢
  generalize nM T57 M133 = M134 at h ⊢
  unfold jX11_init_134 fX10_init
  rw [h.tpn (n := 58) rfl]
  replace h := bs_new 14 40 40 h
  generalize nT T58 14 40 40 = T59 at h ⊢
  generalize nM T58 M134 = M135 at h ⊢
  unfold jX10_init_9
  first | rw [h.kk (o := 57) (k := 9) ⟨by decide, rfl⟩, gdI] | rw [gdI]
  rw [lte]
  replace h := bs_ref 57 0 58 h (by decide)
  generalize pR M135 (t + 57) 0 (some (t + 58)) = M136 at h ⊢
  first | rw [h.kk (o := 57) (k := 9) ⟨by decide, rfl⟩, gdI] | rw [gdI]
  rw [lte]
  replace h := bs_int 57 2 (-1) h (by decide)
  generalize pI M136 (t + 57) 2 (-1) = M137 at h ⊢
  rw [Option.bind_some, une3]
  unfold jX11_init_138
  first | rw [h.kk (o := 50) (k := 18) ⟨by decide, rfl⟩, gdI] | rw [gdI]
  first | rw [h.kk (o := 57) (k := 9) ⟨by decide, rfl⟩, gdI] | rw [gdI]
  rw [h.ll (o := 50) (k := 4) ⟨by decide, rfl⟩, gvI (by omega) (by omega), cl_nI (by omega)]
  rw [lte]
  replace h := bs_ref 50 3 57 h (by decide)
  generalize pR M137 (t + 50) 3 (some (t + 57)) = M138 at h ⊢
  rw [lte]
  refine ok_i ?_
  show Ok (lp (999995 + 1) _ (nI 4, T59, M138)) _
  refine ok_lpS ?_
  show Ok (bX11_init_121 (t + 0) (nI 4) T59 M138) _
  unfold bX11_init_121
  rw [if_pos (by decide)]
  refine ok_i ?_
  show Ok (un2 _ (T59, M138)) _
  rw [une2]
  unfold jX11_init_145
  rw [h.tpn (n := 59) rfl]
  replace h := bs_new 16 2 2 h
  generalize nT T59 16 2 2 = T60 at h ⊢
  generalize nM T59 M138 = M139 at h ⊢
  unfold jX11_init_150
  first | rw [h.kk (o := 0) (k := 10) ⟨by decide, rfl⟩, gdI] | rw [gdI]
  rw [lte]
  replace h := bs_ref 0 10 59 h (by decide)
  generalize pR M139 (t + 0) 10 (some (t + 59)) = M140 at h ⊢
  refine ok_bind.mpr ?_
  show Ok (lp (999997 + 3) _ (nI 0, T60, M140)) _
  refine ok_lpS ?_
  show Ok (bX11_init_155 (t + 0) (nI 0) T60 M140) _
  unfold bX11_init_155
  rw [if_neg (by decide)]
  first | rw [h.kk (o := 0) (k := 10) ⟨by decide, rfl⟩, gdI] | rw [gdI]
  rw [h.gr (o := 0) (f := 10) (s := 59) rfl, Option.bind_some]
  rw [h.tpn (n := 60) rfl]
  replace h := bs_new 1 0 2 h
  generalize nT T60 1 0 2 = T61 at h ⊢
  generalize nM T60 M140 = M141 at h ⊢
  unfold jX11_init_168 fX2_init
  rw [h.tpn (n := 61) rfl]
  replace h := bs_new 7 0 3 h
  generalize nT T61 7 0 3 = T62 at h ⊢
  generalize nM T61 M141 = M142 at h ⊢
  unfold jX2_init_8
  unfold fX8_init
  rw [h.tpn (n := 62) rfl]
  replace h := bs_new 13 6 6 h
  generalize nT T62 13 6 6 = T63 at h ⊢
  generalize nM T62 M142 = M143 at h ⊢
  unfold jX8_init_9
  first | rw [h.kk (o := 61) (k := 7) ⟨by decide, rfl⟩, gdI] | rw [gdI]
  rw [lte]
  replace h := bs_ref 61 0 62 h (by decide)
  generalize pR M143 (t + 61) 0 (some (t + 62)) = M144 at h ⊢
  first | rw [h.kk (o := 61) (k := 7) ⟨by decide, rfl⟩, gdI] | rw [gdI]
  rw [lte]
  replace h := bs_int 61 2 (-1) h (by decide)
  generalize pI M144 (t + 61) 2 (-1) = M145 at h ⊢
  rw [Option.bind_some, une3]
  unfold jX2_init_12
  first | rw [h.kk (o := 60) (k := 1) ⟨by decide, rfl⟩, gdI] | rw [gdI]
  rw [lte]
  replace h := bs_ref 60 0 61 h (by decide)
  generalize pR M145 (t + 60) 0 (some (t + 61)) = M146 at h ⊢
  rw [Option.bind_some, une3]
  unfold jX11_init_172
  first | rw [h.kk (o := 59) (k := 16) ⟨by decide, rfl⟩, gdI] | rw [gdI]
  first | rw [h.kk (o := 60) (k := 1) ⟨by decide, rfl⟩, gdI] | rw [gdI]
  rw [h.ll (o := 59) (k := 2) ⟨by decide, rfl⟩, gvI (by omega) (by omega), cl_nI (by omega)]
  rw [lte]
  replace h := bs_ref 59 0 60 h (by decide)
  generalize pR M146 (t + 59) 0 (some (t + 60)) = M147 at h ⊢
  rw [lte]
  refine ok_i ?_
  show Ok (lp (999997 + 2) _ (nI 1, T63, M147)) _
  refine ok_lpS ?_
  show Ok (bX11_init_155 (t + 0) (nI 1) T63 M147) _
  unfold bX11_init_155
  rw [if_neg (by decide)]
  first | rw [h.kk (o := 0) (k := 10) ⟨by decide, rfl⟩, gdI] | rw [gdI]
  rw [h.gr (o := 0) (f := 10) (s := 59) rfl, Option.bind_some]
  rw [h.tpn (n := 63) rfl]
  replace h := bs_new 1 0 2 h
  generalize nT T63 1 0 2 = T64 at h ⊢
  generalize nM T63 M147 = M148 at h ⊢
  unfold jX11_init_168 fX2_init
  rw [h.tpn (n := 64) rfl]
  replace h := bs_new 7 0 3 h
  generalize nT T64 7 0 3 = T65 at h ⊢
  generalize nM T64 M148 = M149 at h ⊢
  unfold jX2_init_8
  unfold fX8_init
  rw [h.tpn (n := 65) rfl]
  replace h := bs_new 13 6 6 h
  generalize nT T65 13 6 6 = T66 at h ⊢
  generalize nM T65 M149 = M150 at h ⊢
  unfold jX8_init_9
  first | rw [h.kk (o := 64) (k := 7) ⟨by decide, rfl⟩, gdI] | rw [gdI]
  rw [lte]
  replace h := bs_ref 64 0 65 h (by decide)
  generalize pR M150 (t + 64) 0 (some (t + 65)) = M151 at h ⊢
  first | rw [h.kk (o := 64) (k := 7) ⟨by decide, rfl⟩, gdI] | rw [gdI]
  rw [lte]
  replace h := bs_int 64 2 (-1) h (by decide)
  generalize pI M151 (t + 64) 2 (-1) = M152 at h ⊢
  rw [Option.bind_some, une3]
  unfold jX2_init_12
  first | rw [h.kk (o := 63) (k := 1) ⟨by decide, rfl⟩, gdI] | rw [gdI]
  rw [lte]
  replace h := bs_ref 63 0 64 h (by decide)
  generalize pR M152 (t + 63) 0 (some (t + 64)) = M153 at h ⊢
  rw [Option.bind_some, une3]
  unfold jX11_init_172
  first | rw [h.kk (o := 59) (k := 16) ⟨by decide, rfl⟩, gdI] | rw [gdI]
  first | rw [h.kk (o := 63) (k := 1) ⟨by decide, rfl⟩, gdI] | rw [gdI]
  rw [h.ll (o := 59) (k := 2) ⟨by decide, rfl⟩, gvI (by omega) (by omega), cl_nI (by omega)]
  rw [lte]
  replace h := bs_ref 59 1 63 h (by decide)
  generalize pR M153 (t + 59) 1 (some (t + 63)) = M154 at h ⊢
  rw [lte]
  refine ok_i ?_
  show Ok (lp (999997 + 1) _ (nI 2, T66, M154)) _
  refine ok_lpS ?_
  show Ok (bX11_init_155 (t + 0) (nI 2) T66 M154) _
  unfold bX11_init_155
  rw [if_pos (by decide)]
  refine ok_i ?_
  show Ok (un2 _ (T66, M154)) _
  rw [une2]
  unfold jX11_init_179
  rw [h.tpn (n := 66) rfl]
  replace h := bs_new 13 24 24 h
  generalize nT T66 13 24 24 = T67 at h ⊢
  generalize nM T66 M154 = M155 at h ⊢
  unfold jX11_init_184
  first | rw [h.kk (o := 0) (k := 10) ⟨by decide, rfl⟩, gdI] | rw [gdI]
  rw [lte]
  replace h := bs_ref 0 11 66 h (by decide)
  generalize pR M155 (t + 0) 11 (some (t + 66)) = M156 at h ⊢
  rw [h.tpn (n := 67) rfl]
  replace h := bs_new 13 24 24 h
  generalize nT T67 13 24 24 = T68 at h ⊢
  generalize nM T67 M156 = M157 at h ⊢
  unfold jX11_init_192
  first | rw [h.kk (o := 0) (k := 10) ⟨by decide, rfl⟩, gdI] | rw [gdI]
  rw [lte]
  replace h := bs_ref 0 12 67 h (by decide)
  generalize pR M157 (t + 0) 12 (some (t + 67)) = M158 at h ⊢
  rw [h.tpn (n := 68) rfl]
  replace h := bs_new 13 4 4 h
  generalize nT T68 13 4 4 = T69 at h ⊢
  generalize nM T68 M158 = M159 at h ⊢
  unfold jX11_init_199
  first | rw [h.kk (o := 0) (k := 10) ⟨by decide, rfl⟩, gdI] | rw [gdI]
  rw [lte]
  replace h := bs_ref 0 13 68 h (by decide)
  generalize pR M159 (t + 0) 13 (some (t + 68)) = M160 at h ⊢
  refine ok_i ?_
  show Ok (un3 _ ((), T69, M160)) _
  rw [une3]
  unfold jL_law_7
  rw [h.tpn (n := 69) rfl]
  replace h := bs_new 11 0 43 h
  generalize nT T69 11 0 43 = T70 at h ⊢
  generalize nM T69 M160 = M161 at h ⊢
  unfold jL_law_11 fX12_init
  rw [h.tpn (n := 70) rfl]
  replace h := bs_new 13 3096 3096 h
  generalize nT T70 13 3096 3096 = T71 at h ⊢
  generalize nM T70 M161 = M162 at h ⊢
  unfold jX12_init_10
  first | rw [h.kk (o := 69) (k := 11) ⟨by decide, rfl⟩, gdI] | rw [gdI]
  rw [lte]
  replace h := bs_ref 69 1 70 h (by decide)
  generalize pR M162 (t + 69) 1 (some (t + 70)) = M163 at h ⊢
  rw [h.tpn (n := 71) rfl]
  replace h := bs_new 15 2 2 h
  generalize nT T71 15 2 2 = T72 at h ⊢
  generalize nM T71 M163 = M164 at h ⊢
  unfold jX12_init_17
  first | rw [h.kk (o := 69) (k := 11) ⟨by decide, rfl⟩, gdI] | rw [gdI]
  rw [lte]
  replace h := bs_ref 69 2 71 h (by decide)
  generalize pR M164 (t + 69) 2 (some (t + 71)) = M165 at h ⊢
  rw [h.tpn (n := 72) rfl]
  replace h := bs_new 13 900 900 h
  generalize nT T72 13 900 900 = T73 at h ⊢
  generalize nM T72 M165 = M166 at h ⊢
  unfold jX12_init_26
  first | rw [h.kk (o := 69) (k := 11) ⟨by decide, rfl⟩, gdI] | rw [gdI]
  rw [lte]
  replace h := bs_ref 69 3 72 h (by decide)
  generalize pR M166 (t + 69) 3 (some (t + 72)) = M167 at h ⊢
  rw [h.tpn (n := 73) rfl]
  replace h := bs_new 13 1032 1032 h
  generalize nT T73 13 1032 1032 = T74 at h ⊢
  generalize nM T73 M167 = M168 at h ⊢
  unfold jX12_init_35
  first | rw [h.kk (o := 69) (k := 11) ⟨by decide, rfl⟩, gdI] | rw [gdI]
  rw [lte]
  replace h := bs_ref 69 4 73 h (by decide)
  generalize pR M168 (t + 69) 4 (some (t + 73)) = M169 at h ⊢
  first | rw [h.kk (o := 69) (k := 11) ⟨by decide, rfl⟩, gdI] | rw [gdI]
  rw [lte]
  replace h := bs_int 69 14 (-1) h (by decide)
  generalize pI M169 (t + 69) 14 (-1) = M170 at h ⊢
  rw [h.tpn (n := 74) rfl]
  replace h := bs_new 13 900 900 h
  generalize nT T74 13 900 900 = T75 at h ⊢
  generalize nM T74 M170 = M171 at h ⊢
  unfold jX12_init_49
  first | rw [h.kk (o := 69) (k := 11) ⟨by decide, rfl⟩, gdI] | rw [gdI]
  rw [lte]
  replace h := bs_ref 69 16 74 h (by decide)
  generalize pR M171 (t + 69) 16 (some (t + 74)) = M172 at h ⊢
  rw [h.tpn (n := 75) rfl]
  replace h := bs_new 13 6 6 h
  generalize nT T75 13 6 6 = T76 at h ⊢
  generalize nM T75 M172 = M173 at h ⊢
  unfold jX12_init_57
  first | rw [h.kk (o := 69) (k := 11) ⟨by decide, rfl⟩, gdI] | rw [gdI]
  rw [lte]
  replace h := bs_ref 69 17 75 h (by decide)
  generalize pR M173 (t + 69) 17 (some (t + 75)) = M174 at h ⊢
  rw [h.tpn (n := 76) rfl]
  replace h := bs_new 13 16 16 h
  generalize nT T76 13 16 16 = T77 at h ⊢
  generalize nM T76 M174 = M175 at h ⊢
  unfold jX12_init_65
  first | rw [h.kk (o := 69) (k := 11) ⟨by decide, rfl⟩, gdI] | rw [gdI]
  rw [lte]
  replace h := bs_ref 69 20 76 h (by decide)
  generalize pR M175 (t + 69) 20 (some (t + 76)) = M176 at h ⊢
  rw [h.tpn (n := 77) rfl]
  replace h := bs_new 13 8 8 h
  generalize nT T77 13 8 8 = T78 at h ⊢
  generalize nM T77 M176 = M177 at h ⊢
  unfold jX12_init_73
  first | rw [h.kk (o := 69) (k := 11) ⟨by decide, rfl⟩, gdI] | rw [gdI]
  rw [lte]
  replace h := bs_ref 69 29 77 h (by decide)
  generalize pR M177 (t + 69) 29 (some (t + 77)) = M178 at h ⊢
  rw [h.tpn (n := 78) rfl]
  replace h := bs_new 15 384 384 h
  generalize nT T78 15 384 384 = T79 at h ⊢
  generalize nM T78 M178 = M179 at h ⊢
  unfold jX12_init_82
  first | rw [h.kk (o := 69) (k := 11) ⟨by decide, rfl⟩, gdI] | rw [gdI]
  rw [lte]
  replace h := bs_ref 69 33 78 h (by decide)
  generalize pR M179 (t + 69) 33 (some (t + 78)) = M180 at h ⊢
  rw [h.tpn (n := 79) rfl]
  replace h := bs_new 13 64 64 h
  generalize nT T79 13 64 64 = T80 at h ⊢
  generalize nM T79 M180 = M181 at h ⊢
  unfold jX12_init_90
  first | rw [h.kk (o := 69) (k := 11) ⟨by decide, rfl⟩, gdI] | rw [gdI]
  rw [lte]
  replace h := bs_ref 69 34 79 h (by decide)
  generalize pR M181 (t + 69) 34 (some (t + 79)) = M182 at h ⊢
  rw [h.tpn (n := 80) rfl]
  replace h := bs_new 13 384 384 h
  generalize nT T80 13 384 384 = T81 at h ⊢
  generalize nM T80 M182 = M183 at h ⊢
  unfold jX12_init_99
  first | rw [h.kk (o := 69) (k := 11) ⟨by decide, rfl⟩, gdI] | rw [gdI]
  rw [lte]
  replace h := bs_ref 69 35 80 h (by decide)
  generalize pR M183 (t + 69) 35 (some (t + 80)) = M184 at h ⊢
  rw [h.tpn (n := 81) rfl]
  replace h := bs_new 14 384 384 h
  generalize nT T81 14 384 384 = T82 at h ⊢
  generalize nM T81 M184 = M185 at h ⊢
  unfold jX12_init_108
  first | rw [h.kk (o := 69) (k := 11) ⟨by decide, rfl⟩, gdI] | rw [gdI]
  rw [lte]
  replace h := bs_ref 69 36 81 h (by decide)
  generalize pR M185 (t + 69) 36 (some (t + 81)) = M186 at h ⊢
  rw [h.tpn (n := 82) rfl]
  replace h := bs_new 14 384 384 h
  generalize nT T82 14 384 384 = T83 at h ⊢
  generalize nM T82 M186 = M187 at h ⊢
  unfold jX12_init_117
  first | rw [h.kk (o := 69) (k := 11) ⟨by decide, rfl⟩, gdI] | rw [gdI]
  rw [lte]
  replace h := bs_ref 69 37 82 h (by decide)
  generalize pR M187 (t + 69) 37 (some (t + 82)) = M188 at h ⊢
  rw [h.tpn (n := 83) rfl]
  replace h := bs_new 14 24 24 h
  generalize nT T83 14 24 24 = T84 at h ⊢
  generalize nM T83 M188 = M189 at h ⊢
  unfold jX12_init_125
  first | rw [h.kk (o := 69) (k := 11) ⟨by decide, rfl⟩, gdI] | rw [gdI]
  rw [lte]
  replace h := bs_ref 69 38 83 h (by decide)
  generalize pR M189 (t + 69) 38 (some (t + 83)) = M190 at h ⊢
  rw [h.tpn (n := 84) rfl]
  replace h := bs_new 14 24 24 h
  generalize nT T84 14 24 24 = T85 at h ⊢
  generalize nM T84 M190 = M191 at h ⊢
  unfold jX12_init_133
  first | rw [h.kk (o := 69) (k := 11) ⟨by decide, rfl⟩, gdI] | rw [gdI]
  rw [lte]
  replace h := bs_ref 69 39 84 h (by decide)
  generalize pR M191 (t + 69) 39 (some (t + 84)) = M192 at h ⊢
  rw [h.tpn (n := 85) rfl]
  replace h := bs_new 13 4 4 h
  generalize nT T85 13 4 4 = T86 at h ⊢
  generalize nM T85 M192 = M193 at h ⊢
  unfold jX12_init_140
  first | rw [h.kk (o := 85) (k := 13) ⟨by decide, rfl⟩, gdI] | rw [gdI]
  rw [h.ll (o := 85) (k := 4) ⟨by decide, rfl⟩]
  rw [gv_pos (i := (0 : Int32)) (n := 4) (show vp_in (0 : Int32) 4 from in_nI (n := 0) (by omega) (by omega)), show Int32.toNatClampNeg (0 : Int32) = 0 from rfl]
  rw [lte]
  replace h := bs_int 85 0 (-1) h (by decide)
  generalize pI M193 (t + 85) 0 (-1) = M194 at h ⊢
  rw [gv_pos (i := (1 : Int32)) (n := 4) (show vp_in (1 : Int32) 4 from in_nI (n := 1) (by omega) (by omega)), show Int32.toNatClampNeg (1 : Int32) = 1 from rfl]
  rw [lte]
  replace h := bs_int 85 1 (-1) h (by decide)
  generalize pI M194 (t + 85) 1 (-1) = M195 at h ⊢
  rw [gv_pos (i := (2 : Int32)) (n := 4) (show vp_in (2 : Int32) 4 from in_nI (n := 2) (by omega) (by omega)), show Int32.toNatClampNeg (2 : Int32) = 2 from rfl]
  rw [lte]
  replace h := bs_int 85 2 (-1) h (by decide)
  generalize pI M195 (t + 85) 2 (-1) = M196 at h ⊢
  rw [gv_pos (i := (3 : Int32)) (n := 4) (show vp_in (3 : Int32) 4 from in_nI (n := 3) (by omega) (by omega)), show Int32.toNatClampNeg (3 : Int32) = 3 from rfl]
  rw [lte]
  replace h := bs_int 85 3 (-1) h (by decide)
  generalize pI M196 (t + 85) 3 (-1) = M197 at h ⊢
  first | rw [h.kk (o := 69) (k := 11) ⟨by decide, rfl⟩, gdI] | rw [gdI]
  rw [lte]
  replace h := bs_ref 69 40 85 h (by decide)
  generalize pR M197 (t + 69) 40 (some (t + 85)) = M198 at h ⊢
  rw [h.tpn (n := 86) rfl]
  replace h := bs_new 13 4 4 h
  generalize nT T86 13 4 4 = T87 at h ⊢
  generalize nM T86 M198 = M199 at h ⊢
  unfold jX12_init_163
  first | rw [h.kk (o := 69) (k := 11) ⟨by decide, rfl⟩, gdI] | rw [gdI]
  rw [lte]
  replace h := bs_ref 69 41 86 h (by decide)
  generalize pR M199 (t + 69) 41 (some (t + 86)) = M200 at h ⊢
  rw [h.tpn (n := 87) rfl]
  replace h := bs_new 14 160 160 h
  generalize nT T87 14 160 160 = T88 at h ⊢
  generalize nM T87 M200 = M201 at h ⊢
  unfold jX12_init_172
  first | rw [h.kk (o := 69) (k := 11) ⟨by decide, rfl⟩, gdI] | rw [gdI]
  rw [lte]
  replace h := bs_ref 69 42 87 h (by decide)
  generalize pR M201 (t + 69) 42 (some (t + 87)) = M202 at h ⊢
  first | rw [h.kk (o := 69) (k := 11) ⟨by decide, rfl⟩, gdI] | rw [gdI]
  rw [h.gr (o := 69) (f := 1) (s := 70) rfl, Option.bind_some]
  have hK := hK T88 M202 h
  revert hK
  cases fX12_plain T88 M202 (t + 70) with
  | none => intro hK; exact hK
  | some q => intro hK; exact hK
