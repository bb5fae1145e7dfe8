section
variable {x m t k l : Nat} {g : Nat → Bool} {A B : Nat → Int32} {T T2 : Sh} {M M1 M2 : Me} {S : Wd}
theorem cn_sum {c : Nat} : ∀ n, cnA A l g true c n + cnA A l g false c n = fb_ct g n
  | 0 => rfl
  | n + 1 => by
    have ih := cn_sum (c := c) n
    rw [cnA_s, cnA_s, fb_ct_succ]
    cases g n <;> cases psd A (qA A) n l (c / 24) (c % 24) <;> simp <;> omega
theorem c_max {a b : Nat} (ha : a < 2147483648) (hb : b < 2147483648) : fJ9_max_7cf53 (nI a) (nI b) = some (nI (if a ≤ b then b else a)) := by
  unfold fJ9_max_7cf53
  simp only [c_lt ha hb, c_le ha hb, c_le hb ha]
  by_cases z : a ≤ b
  · rw [if_pos z]
    split
    · first | rfl | (have : a = b := by omega
                     rw [this])
    · first | rfl | (have : a = b := by omega
                     rw [this])
  · rw [if_neg z]
    split
    · first | rfl | omega
    · first | rfl | omega
theorem bc_step {c : Nat} : (bsW 32 (bcA A l g (c + 1)), bsP (bcA A l g (c + 1))) = if bsW 32 (bcA A l g c) ≤ nI (mxA A l g c) then (bsW 32 (bcA A l g c), bsP (bcA A l g c)) else (nI (mxA A l g c), nI c) := by
  have hm := mxA_b (A := A) (l := l) (g := g) (c := c)
  have hbb := bcA_b (A := A) (l := l) (g := g) c
  have hs : bcA A l g (c + 1) = match bcA A l g c with
    | none => some (c, mxA A l g c)
    | some r => if mxA A l g c < r.2 then some (c, mxA A l g c) else some r := rfl
  cases e : bcA A l g c with
  | none =>
    rw [e] at hs
    have hs : bcA A l g (c + 1) = some (c, mxA A l g c) := hs
    rw [hs, if_neg]
    · rfl
    · show ¬ (32 : Int32) ≤ nI (mxA A l g c)
      rw [i_32, c_le (by omega) (by omega)]; omega
  | some r =>
    rw [e] at hs hbb
    have hbb : r.1 < c ∧ r.2 ≤ 31 := hbb
    have hs : bcA A l g (c + 1) = if mxA A l g c < r.2 then some (c, mxA A l g c) else some r := hs
    show _ = if nI r.2 ≤ nI (mxA A l g c) then _ else _
    rw [ite_le (by omega) (by omega), hs]
    by_cases z : mxA A l g c < r.2
    · rw [if_pos z, if_neg (by omega)]; rfl
    · rw [if_neg z, if_pos (by omega)]
theorem c_bestIn {v s : Nat} (hp : PX x T M) (hv : v < 16) (hs : s ≤ 1) (h11 : gR M x 11 = some (x + 66 + s)) (hC : ∀ d, d < 24 → gI M (x + 66 + s) d = nI (cnA A l g true (24 * v + d) 31)) : lp FU (fun q => bX11_attempt_60 T M x (nI l) (mk g 31) (nI v) q.1 q.2.1 q.2.2) (bsW 32 (bcA A l g (24 * v)), bsP (bcA A l g (24 * v)), (0 : Int32)) = some (bsW 32 (bcA A l g (24 * (v + 1))), bsP (bcA A l g (24 * (v + 1)))) := by
  have kk : kd T (x + 66 + s) = 13 ∧ ln T (x + 66 + s) = 24 := by
    rcases (by omega : s = 0 ∨ s = 1) with rfl | rfl
    · exact ⟨hp.k66, hp.l66⟩
    · exact ⟨hp.k67, hp.l67⟩
  have key : Ok (lp FU (fun q => bX11_attempt_60 T M x (nI l) (mk g 31) (nI v) q.1 q.2.1 q.2.2) (bsW 32 (bcA A l g (24 * v)), bsP (bcA A l g (24 * v)), (0 : Int32))) (fun r => r = (bsW 32 (bcA A l g (24 * (v + 1))), bsP (bcA A l g (24 * (v + 1))))) := by
    refine ok_forF (s := (bsW 32 (bcA A l g (24 * v)), bsP (bcA A l g (24 * v)), (0 : Int32))) 0 24 (fun d q => q = (bsW 32 (bcA A l g (24 * v + d)), bsP (bcA A l g (24 * v + d)), nI d)) _ rfl (by omega) (by omega) (fun d q _ hd hI => ?_) (fun q hI => ?_)
    · subst hI
      have b1 : cnA A l g true (24 * v + d) 31 ≤ 31 := fb_ct_le _ 31
      have b2' : cnA A l g false (24 * v + d) 31 ≤ 31 := fb_ct_le _ 31
      have sm := cn_sum (A := A) (l := l) (g := g) (c := 24 * v + d) 31
      show Ok (bX11_attempt_60 T M x (nI l) (mk g 31) (nI v) (bsW 32 (bcA A l g (24 * v + d))) (bsP (bcA A l g (24 * v + d))) (nI d)) _
      unfold bX11_attempt_60
      rw [i_24, ite_le (by omega) (by omega), if_neg (by omega), hp.k0, gdI, h11, Option.bind_some, kk.1, gdI, kk.2, gvI (by omega) (by omega), cl_nI (by omega), hC d hd, bitCount_mk (by omega), Option.bind_some, Option.bind_some, kk.1, gdI, kk.2, gvI (by omega) (by omega), hC d hd, c_sub (by omega), c_max (by omega) (by omega), Option.bind_some]
      have em : (if cnA A l g true (24 * v + d) 31 ≤ fb_ct g 31 - cnA A l g true (24 * v + d) 31 then fb_ct g 31 - cnA A l g true (24 * v + d) 31 else cnA A l g true (24 * v + d) 31) = mxA A l g (24 * v + d) := by
        rw [← sm, Nat.add_sub_cancel_left]; rfl
      rw [em]
      have st := bc_step (A := A) (l := l) (g := g) (c := 24 * v + d)
      by_cases z : bsW 32 (bcA A l g (24 * v + d)) ≤ nI (mxA A l g (24 * v + d))
      · rw [if_pos z] at st ⊢
        rw [lte, nI_1]
        have s1 := congrArg Prod.fst st
        have s2 := congrArg Prod.snd st
        refine ok_i ?_
        show (bsW 32 (bcA A l g (24 * v + d)), bsP (bcA A l g (24 * v + d)), nI (d + 1)) = (bsW 32 (bcA A l g (24 * v + (d + 1))), bsP (bcA A l g (24 * v + (d + 1))), nI (d + 1))
        exact Prod.ext s1.symm (Prod.ext s2.symm rfl)
      · rw [if_neg z] at st ⊢
        rw [lte, lte, nI_1, c_mul, nI_add]
        have s1 := congrArg Prod.fst st
        have s2 := congrArg Prod.snd st
        refine ok_i ?_
        show (nI (mxA A l g (24 * v + d)), nI (v * 24 + d), nI (d + 1)) = (bsW 32 (bcA A l g (24 * v + (d + 1))), bsP (bcA A l g (24 * v + (d + 1))), nI (d + 1))
        refine Prod.ext s1.symm (Prod.ext ?_ rfl)
        rw [show v * 24 + d = 24 * v + d by omega]; exact s2.symm
    · subst hI
      rw [show 24 * (v + 1) = 24 * v + 24 by omega]
      generalize bcA A l g (24 * v + 24) = O
      show Ok (bX11_attempt_60 T M x (nI l) (mk g 31) (nI v) (bsW 32 O) (bsP O) (nI 24)) _
      unfold bX11_attempt_60
      rw [i_24, if_pos (by decide)]
      exact ok_i rfl
  obtain ⟨r, e, rfl⟩ := key
  exact e
theorem s_attempt (hS : S.ok) (a b : Int32) : QS x S (fun T M => fX11_attempt T M x a b) (fun T M => fX12_attempt T M (x + 69) a b) := by
  rcases seen_cases (x := x) hS a b with ⟨r, hr, h1, h2⟩ | ⟨t, l, k, v, rfl, rfl, hl, h1, h2⟩
  · refine qs_no hS r (fun T M h => ?_) (fun T M h => ?_)
    · show fX11_attempt T M x a b = _
      unfold fX11_attempt
      rw [h.1.px.k0, gdI, h1 T M h, Option.bind_some, if_neg hr]
    · show fX12_attempt T M (x + 69) a b = _
      unfold fX12_attempt
      rw [h.1.1.k, gdI, lte, h2 T _ h.t0.1, Option.bind_some, if_neg hr]
  generalize hg : (fun e => agB S.A l e v k) = g
  have hgD : mk (fun e => agB S.A l e v k) 31 = mk g 31 := by rw [hg]
  have cHead : ∀ T M, WC x S T M → ∃ M1, WC x S T M1 ∧ CF x M M1 ∧ fX11_attempt T M x (nI t) (nI l) = (lp FU (fun s => bX11_attempt_36 T x (nI l) (mk g 31) s.1 s.2.1 s.2.2.1 s.2.2.2) ((32 : Int32), (-1 : Int32), (0 : Int32), M1)).bind (un2 fun x6_31 M32 => some (x6_31, M32)) := by
    intro T M h
    have hp := h.1.px
    obtain ⟨e0, tv⟩ := h1 T M h
    obtain ⟨t1, t2, t3, t4, t5⟩ := hp.tr tv.1
    have := tv.1
    obtain ⟨p, ep, ⟨e1, f1, g1⟩⟩ := c_seenDrifts h.1 hl tv
    obtain ⟨p1, M1⟩ := p
    have e1 : p1 = mk g 31 := e1.trans hgD
    subst e1
    refine ⟨M1, h.gf g1 f1.gf, f1.gf.wf.2.2.2, ?_⟩
    unfold fX11_attempt
    rw [hp.k0, gdI, e0, Option.bind_some, if_pos rfl]
    simp (disch := omega) only [gdI, gdT, Option.bind_some, hp.r0_9, hp.k50, hp.l50, gvI, cl_nI, t5, ep, une2]
  have rHead : ∀ T M, WR (x + 69) S T M → ∃ M1, WR (x + 69) S T M1 ∧ RF (x + 69) M M1 ∧ gI M1 (x + 69) 19 = stA S.A (qA S.A) ∧ fX12_attempt T M (x + 69) (nI t) (nI l) = (lp FU (fun s => bX12_attempt_37 T (x + 69) (nI l) (mk g 31) s.1 s.2.1 s.2.2.1 s.2.2.2) ((-1 : Int32), (268435456 : Int32), (0 : Int32), M1)).bind (un2 fun x5_32 M33 => some (x5_32, M33)) := by
    intro T M h
    obtain ⟨h0, f0⟩ := h.t0 (v := 0)
    obtain ⟨e0, tu⟩ := h2 T _ h0
    obtain ⟨p, ep, ⟨e1, f1, e19⟩⟩ := r_driftsOf (h0.rv hS) hl tu
    obtain ⟨p1, M1⟩ := p
    have e1 : p1 = mk g 31 := e1.trans hgD
    subst e1
    have q1 := f1.qf (fun _ _ => nf_qf)
    refine ⟨M1, h0.qf q1, f0.trans q1.rf, e19, ?_⟩
    unfold fX12_attempt
    rw [h.1.1.k, gdI, lte, e0, Option.bind_some, if_pos rfl, ep, Option.bind_some, une2]
  by_cases h0 : mk g 31 = 0
  · refine ⟨-1, S, hS, by omega, fun T M h => ?_, fun T M h => ?_⟩
    · show Ok (fX11_attempt T M x (nI t) (nI l)) _
      obtain ⟨M1, w1, c1, e⟩ := cHead T M h
      rw [e]
      refine Ok.bd (ok_forF (s := ((32 : Int32), (-1 : Int32), (0 : Int32), M1)) 0 0 (fun i s => s = (32, -1, 0, M1)) (fun r => r = (-1, M1)) rfl (by omega) (by omega) (fun i s _ hi hI => by omega) (fun s hI => ?_)) (fun r hr => ?_)
      · subst hI
        show Ok (bX11_attempt_36 T x (nI l) (mk g 31) 32 (-1) 0 M1) _
        unfold bX11_attempt_36
        rw [if_neg (by decide), if_pos h0]
        exact ok_i rfl
      · rw [hr, une2]; exact ok_i ⟨rfl, w1, c1⟩
    · show Ok (fX12_attempt T M (x + 69) (nI t) (nI l)) _
      obtain ⟨M1, w1, c1, _, e⟩ := rHead T M h
      rw [e]
      refine Ok.bd (ok_forF (s := ((-1 : Int32), (268435456 : Int32), (0 : Int32), M1)) 0 0 (fun i s => s = (-1, 268435456, 0, M1)) (fun r => r = (-1, M1)) rfl (by omega) (by omega) (fun i s _ hi hI => by omega) (fun s hI => ?_)) (fun r hr => ?_)
      · subst hI
        show Ok (bX12_attempt_37 T (x + 69) (nI l) (mk g 31) (-1) 268435456 0 M1) _
        unfold bX12_attempt_37
        rw [if_neg (by decide), if_pos h0]
        exact ok_i rfl
      · rw [hr, une2]; exact ok_i ⟨rfl, w1, c1⟩
  · refine ⟨bsP (bcA S.A l g 384), S, hS, by omega, fun T M h => ?_, fun T M h => ?_⟩
    · show Ok (fX11_attempt T M x (nI t) (nI l)) _
      obtain ⟨M1, w1, c1, e⟩ := cHead T M h
      obtain ⟨⟨s, hs, s1, s2⟩, _⟩ := w1.1.sw
      rw [e]
      refine Ok.bd (ok_forF (s := ((32 : Int32), (-1 : Int32), (0 : Int32), M1)) 0 16 (fun v q => ∃ M', q = (bsW 32 (bcA S.A l g (24 * v)), bsP (bcA S.A l g (24 * v)), nI v, M') ∧ gR M' x 11 = some (x + 66 + s) ∧ WC x S T M' ∧ CF x M M') (fun r => r.1 = bsP (bcA S.A l g 384) ∧ WC x S T r.2 ∧ CF x M r.2) ⟨M1, rfl, s1, w1, c1⟩ (by omega) (by omega) (fun v q _ hv hI => ?_) (fun q hI => ?_)) (fun r hr => ?_)
      · obtain ⟨M', rfl, e11, w', c'⟩ := hI
        show Ok (bX11_attempt_36 T x (nI l) (mk g 31) (bsW 32 (bcA S.A l g (24 * v))) (bsP (bcA S.A l g (24 * v))) (nI v) M') _
        unfold bX11_attempt_36
        rw [i_16, ite_le (by omega) (by omega), if_neg (by omega), if_neg h0, w'.1.px.k0, gdI]
        refine Ok.bd (c_countPassing (v := v) w'.1 hl hv hs e11) (fun p hq => ?_)
        obtain ⟨p1, M2⟩ := p
        obtain ⟨hC, e12, f2, h2⟩ := hq
        rw [une2, c_bestIn h2.px hv hs e12 hC, Option.bind_some, une2, lte, nI_1]
        exact ok_i ⟨M2, rfl, e12, w'.gf h2 f2, c'.trans f2.wf.2.2.2⟩
      · obtain ⟨M', rfl, e11, w', c'⟩ := hI
        rw [show 24 * 16 = 384 by omega]
        generalize bcA S.A l g 384 = O
        show Ok (bX11_attempt_36 T x (nI l) (mk g 31) (bsW 32 O) (bsP O) (nI 16) M') _
        unfold bX11_attempt_36
        rw [i_16, if_pos (by decide)]
        exact ok_i ⟨rfl, w', c'⟩
      · obtain ⟨r1, M'⟩ := r
        rw [une2]
        exact ok_i hr
    · show Ok (fX12_attempt T M (x + 69) (nI t) (nI l)) _
      obtain ⟨M1, w1, c1, e19, e⟩ := rHead T M h
      rw [e]
      refine Ok.bd (r_best (w1.rv hS) e19 hl h0) (fun r hr => ?_)
      obtain ⟨r1, M'⟩ := r
      rw [une2]
      have q1 := hr.2.qf (fun _ _ => nf_qf)
      exact ok_i ⟨hr.1, w1.qf q1, c1.trans q1.rf⟩
end
