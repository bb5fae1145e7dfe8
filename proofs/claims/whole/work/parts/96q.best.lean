/-! the cell that tells most: the reference -/
def cnA (A : Nat → Int32) (l : Nat) (g : Nat → Bool) (b : Bool) (c n : Nat) : Nat := fb_ct (fun e => g e && (psd A (qA A) e l (c / 24) (c % 24) == b)) n
def mxA (A : Nat → Int32) (l : Nat) (g : Nat → Bool) (c : Nat) : Nat := if cnA A l g true c 31 ≤ cnA A l g false c 31 then cnA A l g false c 31 else cnA A l g true c 31
def bcA (A : Nat → Int32) (l : Nat) (g : Nat → Bool) : Nat → Option (Nat × Nat)
  | 0 => none
  | n + 1 => match bcA A l g n with
    | none => some (n, mxA A l g n)
    | some r => if mxA A l g n < r.2 then some (n, mxA A l g n) else some r
def bsP (o : Option (Nat × Nat)) : Int32 := match o with
  | none => -1
  | some r => nI r.1
def bsW (z : Int32) (o : Option (Nat × Nat)) : Int32 := match o with
  | none => z
  | some r => nI r.2
def bsO (n : Nat) (o : Option (Nat × Nat)) : Prop := match o with
  | none => True
  | some r => r.1 < n ∧ r.2 ≤ 31
section
variable {x m t k l : Nat} {g : Nat → Bool} {A B : Nat → Int32} {T T2 : Sh} {M M1 M2 : Me} {S : Wd}
theorem mxA_b {c : Nat} : mxA A l g c ≤ 31 := by
  unfold mxA cnA
  have h1 := fb_ct_le (fun e => g e && (psd A (qA A) e l (c / 24) (c % 24) == true)) 31
  have h2 := fb_ct_le (fun e => g e && (psd A (qA A) e l (c / 24) (c % 24) == false)) 31
  split <;> omega
theorem bcA_b : ∀ n, bsO n (bcA A l g n)
  | 0 => trivial
  | n + 1 => by
    have ih := bcA_b n
    have hm := mxA_b (A := A) (l := l) (g := g) (c := n)
    show bsO (n + 1) (match bcA A l g n with
      | none => some (n, mxA A l g n)
      | some r => if mxA A l g n < r.2 then some (n, mxA A l g n) else some r)
    cases e : bcA A l g n with
    | none => exact ⟨Nat.lt_succ_self _, hm⟩
    | some r =>
      rw [e] at ih
      have ih : r.1 < n ∧ r.2 ≤ 31 := ih
      show bsO (n + 1) (if mxA A l g n < r.2 then some (n, mxA A l g n) else some r)
      split
      · exact ⟨Nat.lt_succ_self _, hm⟩
      · exact ⟨by omega, ih.2⟩
theorem cnA_s {b : Bool} {c n : Nat} : cnA A l g b c (n + 1) = cnA A l g b c n + (if (g n && (psd A (qA A) n l (c / 24) (c % 24) == b)) = true then 1 else 0) := rfl
theorem r_tellIn {c : Nat} {a5 a6 : Int32} (h : RV m A T M) (h19 : gI M m 19 = stA A (qA A)) (hl : l < nlA A) (hc : c < 384) : Ok (lp FU (fun s => bX12_attempt_59 T m (nI l) (mk g 31) a5 a6 (nI c) s.1 s.2.1 s.2.2.1 s.2.2.2) ((0 : Int32), (0 : Int32), (0 : Int32), M)) (fun r => r.1 = nI (cnA A l g true c 31) ∧ r.2.1 = nI (cnA A l g false c 31) ∧ FI m (nf m) M r.2.2 ∧ gI r.2.2 m 19 = stA A (qA A)) := by
  refine ok_forF (s := ((0 : Int32), (0 : Int32), (0 : Int32), M)) 0 31 (fun e s => ∃ M', s = (nI (cnA A l g true c e), nI (cnA A l g false c e), nI e, M') ∧ FI m (nf m) M M' ∧ gI M' m 19 = stA A (qA A)) _ ⟨M, rfl, FI.rfl, h19⟩ (by omega) (by omega) (fun e s _ he hI => ?_) (fun s hI => ?_)
  · obtain ⟨M', rfl, f, e19⟩ := hI
    have h' : RV m A T M' := h.fi f (fun _ _ => nf_qf)
    have ct : cnA A l g true c (e + 1) = cnA A l g true c e + (if (g e && (psd A (qA A) e l (c / 24) (c % 24) == true)) = true then 1 else 0) := rfl
    have cf : cnA A l g false c (e + 1) = cnA A l g false c e + (if (g e && (psd A (qA A) e l (c / 24) (c % 24) == false)) = true then 1 else 0) := rfl
    show Ok (bX12_attempt_59 T m (nI l) (mk g 31) a5 a6 (nI c) (nI (cnA A l g true c e)) (nI (cnA A l g false c e)) (nI e) M') _
    unfold bX12_attempt_59
    rw [i_30, ite_lt (by omega) (by omega), if_neg (by omega), isIn_at _ (by omega), bt_mk g 31 e (by omega) (by omega), decide_eq_true he, Bool.true_and, Option.bind_some]
    cases hg : g e
    · rw [if_pos (b2_ne.mpr rfl), nI_1]
      rw [hg] at ct cf
      exact ok_i ⟨M', by rw [ct, cf]; rfl, f, e19⟩
    · rw [if_neg (fun z => absurd (b2_ne.mp z) (by decide)), h'.rm.k, gdI, lte, i_15]
      have fa : FI m (nf m) M (pI M' m 18 (nI e - nI 15)) := f.pI (Or.inr (Or.inr ⟨rfl, Or.inr (Or.inl rfl)⟩))
      have dd2 : RD m A (qA A) e (pI M' m 18 (nI e - nI 15)) := ⟨mII1, (mIIk (by omega)).trans e19⟩
      generalize pI M' m 18 (nI e - nI 15) = M2 at fa dd2 ⊢
      have h2 : RV m A T M2 := h.fi fa (fun _ _ => nf_qf)
      refine Ok.bd (r_isPassed h2 dd2 hl hc) (fun p hq => ?_)
      obtain ⟨p1, M3⟩ := p
      obtain ⟨rfl, f3⟩ := hq
      have fin : FI m (nf m) M M3 ∧ gI M3 m 19 = stA A (qA A) := ⟨fa.trans (f3.wide (fun _ _ => wf_nf)), (dd2.w f3).2⟩
      rw [une2]
      rw [hg] at ct cf
      cases hb : psd A (qA A) e l (c / 24) (c % 24)
      · rw [hb] at ct cf
        rw [if_pos (b2_ne.mpr rfl)]
        simp only [lte, nI_1]
        exact ok_i ⟨M3, by rw [ct, cf]; rfl, fin⟩
      · rw [hb] at ct cf
        rw [if_neg (fun z => absurd (b2_ne.mp z) (by decide))]
        simp only [lte, nI_1]
        exact ok_i ⟨M3, by rw [ct, cf]; rfl, fin⟩
  · obtain ⟨M', rfl, f, e19⟩ := hI
    show Ok (bX12_attempt_59 T m (nI l) (mk g 31) a5 a6 (nI c) (nI (cnA A l g true c 31)) (nI (cnA A l g false c 31)) (nI 31) M') _
    unfold bX12_attempt_59
    rw [if_pos (by decide)]
    exact ok_i ⟨rfl, rfl, f, e19⟩
theorem r_best (h : RV m A T M) (h19 : gI M m 19 = stA A (qA A)) (hl : l < nlA A) (h0 : ¬ mk g 31 = 0) : Ok (lp FU (fun s => bX12_attempt_37 T m (nI l) (mk g 31) s.1 s.2.1 s.2.2.1 s.2.2.2) ((-1 : Int32), (268435456 : Int32), (0 : Int32), M)) (fun r => r.1 = bsP (bcA A l g 384) ∧ FI m (nf m) M r.2) := by
  refine ok_forF (s := ((-1 : Int32), (268435456 : Int32), (0 : Int32), M)) 0 384 (fun c s => ∃ M', s = (bsP (bcA A l g c), bsW 268435456 (bcA A l g c), nI c, M') ∧ FI m (nf m) M M' ∧ gI M' m 19 = stA A (qA A)) _ ⟨M, rfl, FI.rfl, h19⟩ (by omega) (by omega) (fun c s _ hc hI => ?_) (fun s hI => ?_)
  · obtain ⟨M', rfl, f, e19⟩ := hI
    have h' : RV m A T M' := h.fi f (fun _ _ => nf_qf)
    show Ok (bX12_attempt_37 T m (nI l) (mk g 31) (bsP (bcA A l g c)) (bsW 268435456 (bcA A l g c)) (nI c) M') _
    unfold bX12_attempt_37
    rw [i_384, ite_le (by omega) (by omega), if_neg (by omega), if_neg h0]
    refine Ok.bd (r_tellIn h' e19 hl hc) (fun r hr => ?_)
    obtain ⟨r1, r2, M2⟩ := r
    obtain ⟨rfl, rfl, f2, e2⟩ := hr
    have b1 : cnA A l g true c 31 ≤ 31 := fb_ct_le _ 31
    have b2' : cnA A l g false c 31 ≤ 31 := fb_ct_le _ 31
    have hm := mxA_b (A := A) (l := l) (g := g) (c := c)
    have hs : bcA A l g (c + 1) = match bcA A l g c with
      | none => some (c, mxA A l g c)
      | some r => if mxA A l g c < r.2 then some (c, mxA A l g c) else some r := rfl
    have step : Ok (if nI (mxA A l g c) < bsW 268435456 (bcA A l g c) then some (Sum.inl (nI c, nI (mxA A l g c), nI (c + 1), M2)) else some (Sum.inl (bsP (bcA A l g c), bsW 268435456 (bcA A l g c), nI (c + 1), M2))) (fun o => match o with
      | .inl s' => ∃ M', s' = (bsP (bcA A l g (c + 1)), bsW 268435456 (bcA A l g (c + 1)), nI (c + 1), M') ∧ FI m (nf m) M M' ∧ gI M' m 19 = stA A (qA A)
      | .inr r => (r : Int32 × Me).1 = bsP (bcA A l g 384) ∧ FI m (nf m) M r.2) := by
      have hbb := bcA_b (A := A) (l := l) (g := g) c
      cases e : bcA A l g c with
      | none =>
        rw [e] at hs
        have hs : bcA A l g (c + 1) = some (c, mxA A l g c) := hs
        rw [if_pos (by show nI (mxA A l g c) < (268435456 : Int32); rw [fa_lt, nI_toInt (by omega)]; have : (268435456 : Int32).toInt = 268435456 := by decide
                       omega)]
        exact ok_i ⟨M2, by rw [hs]; rfl, f.trans f2, e2⟩
      | some r =>
        rw [e] at hs hbb
        have hbb : r.1 < c ∧ r.2 ≤ 31 := hbb
        have hs : bcA A l g (c + 1) = if mxA A l g c < r.2 then some (c, mxA A l g c) else some r := hs
        show Ok (if nI (mxA A l g c) < nI r.2 then _ else _) _
        rw [ite_lt (by omega) (by omega)]
        by_cases z : mxA A l g c < r.2
        · rw [if_pos z] at hs ⊢
          exact ok_i ⟨M2, by rw [hs]; rfl, f.trans f2, e2⟩
        · rw [if_neg z] at hs ⊢
          exact ok_i ⟨M2, by rw [hs], f.trans f2, e2⟩
    rw [une3, ite_le (by omega) (by omega)]
    simp only [lte, nI_1]
    by_cases z : cnA A l g true c 31 ≤ cnA A l g false c 31
    · have em : mxA A l g c = cnA A l g false c 31 := if_pos z
      rw [if_pos z]
      rw [em] at step
      exact step.mono (fun o ho => by cases o <;> exact ho)
    · have em : mxA A l g c = cnA A l g true c 31 := if_neg z
      rw [if_neg z]
      rw [em] at step
      exact step.mono (fun o ho => by cases o <;> exact ho)
  · obtain ⟨M', rfl, f, e19⟩ := hI
    generalize bcA A l g 384 = O
    show Ok (bX12_attempt_37 T m (nI l) (mk g 31) (bsP O) (bsW 268435456 O) (nI 384) M') _
    unfold bX12_attempt_37
    rw [i_384, if_pos (by decide)]
    exact ok_i ⟨rfl, f⟩
end
