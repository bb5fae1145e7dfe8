/-! time goes on -/
def gT (w : Nat) (A : Nat → Int32) : Nat → Int32 := if w = 0 then tkA A else flA (tkA A)
def gN (w : Nat) (A : Nat → Int32) : Nat → (Nat → Int32)
  | 0 => A
  | i + 1 => gT w (gN w A i)
section
variable {x m : Nat} {A B : Nat → Int32} {T T2 : Sh} {M M1 M2 : Me} {S : Wd}
theorem OK.tk {t : Nat} (h : OK A t) (ht : t + 1 ≤ 1000000) : OK (tkA A) (t + 1) := by
  have := h.2.1.tk h.1 (by have := h.2.2; omega)
  exact ⟨(LE.up (by omega) (by omega)).hLV h.1, this.1, by rw [this.2]; have := h.2.2; omega⟩
theorem OK.fl {t : Nat} (h : OK A t) : OK (flA A) t := by
  have h6 := h.1.b3
  refine ⟨(LE.fl h6).hLV h.1, h.2.1.fl h.1 h6, ?_⟩
  have : tmA (flA A) = tmA A := by unfold tmA flA; rw [flI_n (by omega)]
  rw [this]; exact h.2.2
theorem gT_ok {w t : Nat} (h : OK A t) (ht : t + 1 ≤ 1000000) : OK (gT w A) (t + 1) ∧ LE A (gT w A) ∧ ∀ k, 50 ≤ k → gT w A k = A k := by
  have h1 := h.tk ht
  have l1 : LE A (tkA A) := LE.up (by omega) (by omega)
  have h6 := h1.1.b3
  unfold gT
  by_cases z : w = 0
  · rw [if_pos z]; exact ⟨h1, l1, fun k hk => upA_n (by omega)⟩
  · rw [if_neg z]; exact ⟨h1.fl, l1.trans (LE.fl h6), fun k hk => (flI_n (by omega)).trans (upA_n (by omega))⟩
theorem gN_ok {w t : Nat} (h : OK A t) : ∀ i, t + i ≤ 1000000 → OK (gN w A i) (t + i) ∧ LE A (gN w A i) ∧ ∀ k, 50 ≤ k → gN w A i k = A k
  | 0, _ => ⟨h, LE.rfl, fun _ _ => rfl⟩
  | i + 1, hi => by
    obtain ⟨h1, h2, h3⟩ := gN_ok h i (by omega)
    obtain ⟨k1, k2, k3⟩ := gT_ok (w := w) h1 (by omega)
    exact ⟨k1, h2.trans k2, fun k hk => (k3 k hk).trans (h3 k hk)⟩
theorem gN_0 (h : SV A) : ∀ i, gN 0 A i = upA A 48 (nI (tmA A + i))
  | 0 => funext fun j => by
    show A j = if j = 48 then nI (tmA A) else A j
    by_cases z : j = 48
    · rw [if_pos z, z]; exact h.n48
    · rw [if_neg z]
  | i + 1 => by
    show gT 0 (gN 0 A i) = _
    rw [gN_0 h i]
    unfold gT
    rw [if_pos rfl]
    funext j
    show (if j = 48 then (if (48 : Nat) = 48 then nI (tmA A + i) else A 48) + 1 else if j = 48 then nI (tmA A + i) else A j) = if j = 48 then nI (tmA A + (i + 1)) else A j
    by_cases z : j = 48
    · rw [if_pos z, if_pos z, if_pos rfl, nI_1]; rfl
    · rw [if_neg z, if_neg z, if_neg z]
theorem SV.tmn (h : SV A) (hL : LV A) {t : Nat} (ht : t ≤ 1000000) : SV (upA A 48 (nI t)) := by
  have hp : npA (upA A 48 (nI t)) = npA A := (LE.up (by omega) (by omega)).np
  exact (SV.of (B := upA A 48 (nI t)) (t := t) (q := qA A) (pt := ptA A) upA_1 ht (by rw [upA_n (by omega)]; exact h.n49) (by rw [hp]; exact h.b49) (by rw [hp]; exact hL.b4) (fun l hl => ⟨(upA_n (by omega)).trans (h.pt hl), h.ptb hl⟩)).1
theorem CV.setn (h : CV x A T M) {t : Nat} (ht : t ≤ 1000000) : CV x (upA A 48 (nI t)) T (pI M (x + 25) 1 (nI t)) ∧ NF x M (pI M (x + 25) 1 (nI t)) := by
  have f : NF x M (pI M (x + 25) 1 (nI t)) := ⟨fun a k q _ => by
    by_cases z : a = x + 25
    · rw [mIIk (by omega)]
    · rw [mIIn z], rfl⟩
  refine ⟨h.set (LE.up (by omega) (by omega)) (h.sv.tmn h.lv ht) f ?_ ?_ (fun l' hl' => ?_), f⟩
  · rw [mII1, upA_1]
  · rw [mIIk (by omega)]; exact h.pa.trans (upA_n (by omega)).symm
  · rw [mIIn (by omega)]; exact (h.pt hl').trans (upA_n (by omega)).symm
theorem r_goesFor {n w : Nat} {v : Int32} (hv : v = nI w) (hS : S.ok) (hc : S.c < 600) (h : WR m S T M) (h1 : 1 ≤ n) (h99 : n ≤ 99) (hw : w ≤ 1) : Ok (fX12_goesFor T M m (nI n) v) (fun p => p.1 = nI (fb_ct (pip (acW S (gN w S.A n)).A) (nlA (acW S (gN w S.A n)).A)) ∧ WR m (acW S (gN w S.A n)) T p.2 ∧ RF m M p.2) := by
  subst hv
  have k1 : (1 : Int64).toInt = 1 := by decide
  have k99 : (99 : Int64).toInt = 99 := by decide
  have hN := fun i (hi : i ≤ 99) => gN_ok (w := w) hS.1.1 i (by omega)
  have hok : (acW S (gN w S.A n)).ok := ok_act hS hc ((hN n h99).1.up (by omega)) (hN n h99).2.1 (fun k a _ => (hN n h99).2.2 k a)
  unfold fX12_goesFor
  rw [wi_1 (by rw [Int32.toInt_toInt64, nI_toInt (by omega), k1, k99]; omega), Option.bind_some, if_neg (by decide), h.1.1.k, gdI]
  refine Ok.bd (r_act h) (fun p hq => ?_)
  obtain ⟨p1, M1⟩ := p
  obtain ⟨w1, h1', f1⟩ := hq
  rw [une2]
  refine Ok.bd (ok_forF (s := ((0 : Int32), M1)) 0 n (fun i s => ∃ M', s = (nI i, M') ∧ FI m (df m) M1 M' ∧ RV m (gN w S.A i) T M') (fun M' => FI m (df m) M1 M' ∧ RV m (gN w S.A n) T M') ⟨M1, rfl, FI.rfl, h1'.rv hS⟩ (by omega) (by omega) (fun i s _ hi hI => ?_) (fun s hI => ?_)) (fun M2 hq => ?_)
  · obtain ⟨M', rfl, f, h'⟩ := hI
    show Ok (bX12_goesFor_21 T m (nI n) (nI w) (nI i) M') _
    unfold bX12_goesFor_21
    simp (disch := omega) only [c_le, Nat.not_le.mpr hi, if_false, gdI, h'.rm.k]
    refine Ok.bd (r_goesTick h' (by have := (hN i (by omega)).1.2.2; have := hS.2.2.2; omega) w hw) (fun p hq => ?_)
    obtain ⟨p1, M3⟩ := p
    rw [une2, lte, nI_1]
    exact ok_i ⟨M3, rfl, f.trans hq.1, hq.2⟩
  · obtain ⟨M', rfl, f, h'⟩ := hI
    show Ok (bX12_goesFor_21 T m (nI n) (nI w) (nI n) M') _
    unfold bX12_goesFor_21
    simp (disch := omega) only [c_le, Nat.le_refl, if_true]
    exact ok_i ⟨f, h'⟩
  · obtain ⟨f2, h2⟩ := hq
    refine Ok.bd (r_actW hS.hu (by rw [(hN n h99).2.2 50 (by omega)]; exact hS.h50) h2.rw (w1.fi f2 (fun k => by unfold df kf; omega)) (h1'.2.yf (f2.yf (fun a k q => by unfold df kf at q; omega)))) (fun p hq => ?_)
    obtain ⟨p1, M3⟩ := p
    obtain ⟨h3, f3⟩ := hq
    rw [une2]
    have h6 : nlA (acW S (gN w S.A n)).A ≤ 6 := hok.lv.b3
    refine Ok.bd (r_passedNow (h3.rv hok)) (fun p hq => ?_)
    obtain ⟨p1, M4⟩ := p
    obtain ⟨rfl, f4, h4⟩ := hq
    rw [une2, bitsOf_mk (by omega), Option.bind_some]
    have q4 := f4.qf (fun _ _ => nf_qf)
    exact ok_i ⟨rfl, h3.qf q4, (((f1.rf (fun a k q => by omega)).trans (f2.rf (fun a k q => by unfold df kf at q; omega))).trans (f3.rf (fun a k q => by unfold uf at q; omega))).trans q4.rf⟩
theorem r_goesFor0 {a v : Int32} (h : a.toInt < 1 ∨ 99 < a.toInt) : fX12_goesFor T M m a v = some (-3, M) := by
  have k1 : (1 : Int64).toInt = 1 := by decide
  have k99 : (99 : Int64).toInt = 99 := by decide
  unfold fX12_goesFor
  rw [wi_0 (by rw [Int32.toInt_toInt64, k1, k99]; omega), Option.bind_some, if_pos rfl]
theorem n99 (a : Int32) : (a.toInt < 1 ∨ 99 < a.toInt) ∨ ∃ n, 1 ≤ n ∧ n ≤ 99 ∧ a = nI n := by
  rcases (ix_I a 100 (by omega)).symm with ha | ⟨n, hn, rfl⟩
  · exact Or.inl (by omega)
  · by_cases z : n = 0
    · exact Or.inl (by rw [nI_toInt (by omega)]; omega)
    · exact Or.inr ⟨n, by omega, by omega, rfl⟩
theorem c_out99 {α : Type} {a : Int32} {u v : α} (h : a.toInt < 1 ∨ 99 < a.toInt) : (if a < (1 : Int32) then u else if a ≤ (99 : Int32) then v else u) = u := by
  have k1 : (1 : Int32).toInt = 1 := by decide
  have k99 : (99 : Int32).toInt = 99 := by decide
  by_cases z : a < 1
  · rw [if_pos z]
  · rw [if_neg z, if_neg]
    rw [fa_lt, k1] at z
    rw [fa_le, k99]
    omega
theorem c_in99 {α : Type} {n : Nat} {u v : α} (h1 : 1 ≤ n) (h2 : n ≤ 99) : (if nI n < (1 : Int32) then u else if nI n ≤ (99 : Int32) then v else u) = v := by
  rw [i_1, i_99, ite_lt (by omega) (by omega), ite_le (by omega) (by omega), if_neg (by omega), if_pos (by omega)]
theorem s_ticks (hS : S.ok) (hc : S.c < 600) (a : Int32) : QS x S (fun T M => fX11_ticks T M x a) (fun T M => fX12_ticks T M (x + 69) a) := by
  rcases n99 a with ha | ⟨n, h1, h99, rfl⟩
  · refine qs_no hS (-3) (fun T M h => ?_) (fun T M h => ?_)
    · show fX11_ticks T M x a = _
      unfold fX11_ticks
      exact c_out99 ha
    · show fX12_ticks T M (x + 69) a = _
      unfold fX12_ticks
      rw [h.1.1.k, gdI, lte, r_goesFor0 ha, Option.bind_some, une2]
  have hN := gN_ok (w := 0) hS.1.1 n (by omega)
  have hok : (acW S (gN 0 S.A n)).ok := ok_act hS hc (hN.1.up (by omega)) hN.2.1 (fun k a _ => hN.2.2 k a)
  have h6 : nlA (acW S (gN 0 S.A n)).A ≤ 6 := hok.lv.b3
  refine ⟨nI (fb_ct (pip (acW S (gN 0 S.A n)).A) (nlA (acW S (gN 0 S.A n)).A)), acW S (gN 0 S.A n), hok, Nat.le_refl _, fun T M h => ?_, fun T M h => ?_⟩
  rotate_left
  · show Ok (fX12_ticks T M (x + 69) (nI n)) _
    obtain ⟨h0, f0⟩ := h.t0 (v := 0)
    unfold fX12_ticks
    rw [h.1.1.k, gdI, lte]
    refine Ok.bd (r_goesFor i_0 hS hc h0 h1 h99 (by omega)) (fun p hq => ?_)
    obtain ⟨p1, M1⟩ := p
    rw [une2]
    exact ok_i ⟨hq.1, hq.2.1, f0.trans hq.2.2⟩
  · show Ok (fX11_ticks T M x (nI n)) _
    unfold fX11_ticks
    rw [c_in99 h1 h99, h.1.px.k0, gdI, h.1.px.r0_5, Option.bind_some]
    refine Ok.bd (c_act h) (fun p hq => ?_)
    obtain ⟨p1, M2⟩ := p
    obtain ⟨h2, h3, h4, h5⟩ := hq
    have hp2 := h2.px
    have e48 : gI M2 (x + 25) 1 = nI (tmA S.A) := h2.tm.trans hS.sv.n48
    rw [une2]
    simp (disch := omega) only [gdI, gdT, Option.bind_some, lte, hp2.k0, hp2.k25, hp2.k26, hp2.l26, hp2.r0_0, hp2.r0_2, hp2.r0_3, hp2.r0_4, hp2.r0_5, hp2.r0_6, hp2.r0_7, hp2.r0_9, hp2.r0_10, hp2.r0_13, hp2.r25_0, e48, nI_add]
    obtain ⟨g1, g2⟩ := h2.setn (t := tmA S.A + n) (by have := hS.tm; have := hS.1.2; omega)
    rw [← gN_0 hS.sv] at g1
    have hw := c_actW hS.hu g1 (h3.df g2.df) (h4.wf g2.wf) (fun k a _ => hN.2.2 k a)
    refine Ok.bd (c_passingLanes hw.1) (fun p hq => ?_)
    obtain ⟨p1, M3⟩ := p
    obtain ⟨rfl, f3, k3⟩ := hq
    rw [une2, bitCount_mk (by omega), Option.bind_some]
    exact ok_i ⟨rfl, hw.gf k3 f3.gf, (h5.trans g2.wf.2.2.2).trans f3.gf.wf.2.2.2⟩
theorem s_follow (hS : S.ok) (hc : S.c < 600) (a : Int32) : QS x S (fun T M => fX11_follow T M x a) (fun T M => fX12_follow T M (x + 69) a) := by
  rcases n99 a with ha | ⟨n, h1, h99, rfl⟩
  · refine qs_no hS (-3) (fun T M h => ?_) (fun T M h => ?_)
    · show fX11_follow T M x a = _
      unfold fX11_follow
      exact c_out99 ha
    · show fX12_follow T M (x + 69) a = _
      unfold fX12_follow
      rw [h.1.1.k, gdI, lte, r_goesFor0 ha, Option.bind_some, une2]
  have hNi := fun i (hi : i ≤ 99) => gN_ok (w := 1) hS.1.1 i (by omega)
  have hN := hNi n h99
  have hok : (acW S (gN 1 S.A n)).ok := ok_act hS hc (hN.1.up (by omega)) hN.2.1 (fun k a _ => hN.2.2 k a)
  have h6 : nlA (acW S (gN 1 S.A n)).A ≤ 6 := hok.lv.b3
  refine ⟨nI (fb_ct (pip (acW S (gN 1 S.A n)).A) (nlA (acW S (gN 1 S.A n)).A)), acW S (gN 1 S.A n), hok, Nat.le_refl _, fun T M h => ?_, fun T M h => ?_⟩
  rotate_left
  · show Ok (fX12_follow T M (x + 69) (nI n)) _
    obtain ⟨h0, f0⟩ := h.t0 (v := 0)
    unfold fX12_follow
    rw [h.1.1.k, gdI, lte]
    refine Ok.bd (r_goesFor i_1 hS hc h0 h1 h99 (by omega)) (fun p hq => ?_)
    obtain ⟨p1, M1⟩ := p
    rw [une2]
    exact ok_i ⟨hq.1, hq.2.1, f0.trans hq.2.2⟩
  · show Ok (fX11_follow T M x (nI n)) _
    unfold fX11_follow
    rw [c_in99 h1 h99, h.1.px.k0, gdI, h.1.px.r0_5, Option.bind_some]
    refine Ok.bd (c_act h) (fun p hq => ?_)
    obtain ⟨p1, M2⟩ := p
    obtain ⟨h2, h3, h4, h5⟩ := hq
    rw [une2]
    refine Ok.bd (ok_forF (s := ((0 : Int32), M2)) 0 n (fun i s => ∃ M', s = (nI i, M') ∧ DF x M2 M' ∧ CV x (gN 1 S.A i) T M') (fun M' => DF x M2 M' ∧ CV x (gN 1 S.A n) T M') ⟨M2, rfl, DF.rfl, h2⟩ (by omega) (by omega) (fun i s _ hi hI => ?_) (fun s hI => ?_)) (fun M3 hq => ?_)
    · obtain ⟨M', rfl, f, h'⟩ := hI
      have hp := h'.px
      show Ok (bX11_follow_24 T x (nI n) (nI i) M') _
      unfold bX11_follow_24
      simp (disch := omega) only [c_le, Nat.not_le.mpr hi, if_false, gdI, gdT, Option.bind_some, lte, hp.k0, hp.k25, hp.k26, hp.l26, hp.r0_0, hp.r0_2, hp.r0_3, hp.r0_4, hp.r0_5, hp.r0_6, hp.r0_7, hp.r0_9, hp.r0_10, hp.r0_13, hp.r25_0, h'.tm]
      obtain ⟨g1, g2⟩ := h'.settm (by have := (hNi i (by omega)).1.2.2; have := hS.1.2; omega)
      refine Ok.bd (c_followAll g1) (fun p hq => ?_)
      obtain ⟨p1, M4⟩ := p
      rw [une2, nI_1]
      exact ok_i ⟨M4, rfl, (f.trans g2.df).trans hq.1, hq.2⟩
    · obtain ⟨M', rfl, f, h'⟩ := hI
      show Ok (bX11_follow_24 T x (nI n) (nI n) M') _
      unfold bX11_follow_24
      simp (disch := omega) only [c_le, Nat.le_refl, if_true]
      exact ok_i ⟨f, h'⟩
    · obtain ⟨g2, g1⟩ := hq
      have hw := c_actW hS.hu g1 (h3.df g2) (h4.wf g2.wf) (fun k a _ => hN.2.2 k a)
      refine Ok.bd (c_passingLanes hw.1) (fun p hq => ?_)
      obtain ⟨p1, M4⟩ := p
      obtain ⟨rfl, f3, k3⟩ := hq
      rw [une2, bitCount_mk (by omega), Option.bind_some]
      exact ok_i ⟨rfl, hw.gf k3 f3.gf, (h5.trans g2.wf.2.2.2).trans f3.gf.wf.2.2.2⟩
end
