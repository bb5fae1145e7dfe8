def fw (a b c d e : Int32) (k : Nat) : Int32 := if k = 0 then a else if k = 1 then b else if k = 2 then c else if k = 3 then d else e
def fby (ws : Nat → Int32) (q : Nat) : Nat := lo8 (ws (q / 4) >>> (nI (24 - 8 * (q % 4)) &&& 31))
def fdW (S : Wd) (ws : Nat → Int32) : Wd := mkW S.A S.u (S.n + 20) (fun q => if S.n ≤ q ∧ q < S.n + 20 then fby ws (q - S.n) else S.b q) S.f1 S.f2 S.so S.sz S.nu S.im S.c
def FD (x n : Nat) (ws : Nat → Int32) (j : Nat) (M M' : Me) : Prop := gI M' x 1 = nI (n + 4 * j) ∧ (∀ q, q < 4 * j → gI M' (x + 1) (n + q) = (nI (fby ws q)).toInt8.toInt32) ∧ (∀ a k, ¬ (a = x ∧ k = 1) → ¬ (a = x + 1 ∧ n ≤ k) → gI M' a k = gI M a k) ∧ M'.2 = M.2
section
variable {x m : Nat} {A B : Nat → Int32} {T T2 : Sh} {M M1 M2 : Me} {S : Wd}
theorem FD.next {n j : Nat} {ws : Nat → Int32} {w : Int32} (hp : PX x T M) (h : FD x n ws j M M1) (hn : n + 20 ≤ 900) (hj : j < 5) (hw : ws j = w) : Ok (fX11_putBytes T M1 x w) (fun p => FD x n ws (j + 1) M p.2) := by
  obtain ⟨h1, h2, h3, h4⟩ := h
  refine (c_putBytes (n := n + 4 * j) (w := w) (hp.eq (by rw [h4])) h1 (by omega)).mono (fun p hq => ?_)
  obtain ⟨k1, k2, k3, k4⟩ := hq
  refine ⟨by rw [k1, show n + 4 * j + 4 = n + 4 * (j + 1) by omega], fun q hq => ?_, fun a k z1 z2 => (k3 a k z1 (by omega)).trans (h3 a k z1 z2), k4.trans h4⟩
  by_cases z : q < 4 * j
  · rw [k3 _ _ (by omega) (by omega)]; exact h2 q z
  · have := k2 (q - 4 * j) (by omega)
    rw [show n + 4 * j + (q - 4 * j) = n + q by omega] at this
    rw [this]
    unfold fby
    rw [show q / 4 = j by omega, show q % 4 = q - 4 * j by omega, hw]
theorem s_feed (hS : S.ok) (a b c d e : Int32) : QS x S (fun T M => fX11_feed T M x a b c d e) (fun T M => fX12_feed T M (x + 69) a b c d e) := by
  have h9 := hS.2.2.1.1
  by_cases hn : S.n + 20 ≤ 900
  · have hok : (fdW S (fw a b c d e)).ok := by
      obtain ⟨h1, h2, h3, h4, h5⟩ := hS
      refine ⟨h1, h2, ⟨hn, fun q => ?_⟩, h4, h5⟩
      show (if S.n ≤ q ∧ q < S.n + 20 then fby (fw a b c d e) (q - S.n) else S.b q) < 256
      by_cases z : S.n ≤ q ∧ q < S.n + 20
      · rw [if_pos z]; exact lo8_b _
      · rw [if_neg z]; exact h3.2 q
    refine ⟨nI (S.n + 20), fdW S (fw a b c d e), hok, by show S.c ≤ S.c + 1; omega, fun T M h => ?_, fun T M h => ?_⟩
    · show Ok (fX11_feed T M x a b c d e) _
      have hp := h.1.px
      have e1 : gI M x 1 = nI S.n := h.2.2.2.1.1
      unfold fX11_feed
      rw [hp.k0, gdI, e1, i_20, i_900, nI_add, ite_le (by omega) (by omega), if_pos hn]
      have f0 : FD x S.n (fw a b c d e) 0 M M := ⟨e1, fun q hq => absurd hq (by omega), fun _ _ _ _ => rfl, rfl⟩

      refine Ok.bd (f0.next hp hn (by omega) (show fw a b c d e 0 = a from rfl)) (fun p hq => ?_)
      obtain ⟨u1, M1⟩ := p
      have f1 : FD x S.n (fw a b c d e) 1 M M1 := hq
      rw [une2]
      refine Ok.bd (f1.next hp hn (by omega) (show fw a b c d e 1 = b from rfl)) (fun p hq => ?_)
      obtain ⟨u2, M2⟩ := p
      have f2 : FD x S.n (fw a b c d e) 2 M M2 := hq
      rw [une2]
      refine Ok.bd (f2.next hp hn (by omega) (show fw a b c d e 2 = c from rfl)) (fun p hq => ?_)
      obtain ⟨u3, M3⟩ := p
      have f3 : FD x S.n (fw a b c d e) 3 M M3 := hq
      rw [une2]
      refine Ok.bd (f3.next hp hn (by omega) (show fw a b c d e 3 = d from rfl)) (fun p hq => ?_)
      obtain ⟨u4, M4⟩ := p
      have f4 : FD x S.n (fw a b c d e) 4 M M4 := hq
      rw [une2]
      refine Ok.bd (f4.next hp hn (by omega) (show fw a b c d e 4 = e from rfl)) (fun p hq => ?_)
      obtain ⟨u5, M5⟩ := p
      have f5 : FD x S.n (fw a b c d e) 5 M M5 := hq
      rw [une2]
      obtain ⟨k1, k2, k3, k4⟩ := f5
      have eJ : ∀ a k, gJ M5 a k = gJ M a k := fun a k => by unfold gJ; rw [k4]
      have eR : ∀ a k, gR M5 a k = gR M a k := fun a k => by unfold gR; rw [k4]
      obtain ⟨h1, h2, h0, ⟨h3, h4⟩, ⟨h5, h6⟩, h7, h8, G, h9, h10⟩ := h
      refine ok_i ⟨k1, ⟨h1.fr TE.rfl (by omega) (fun a k q _ => k3 _ _ (by unfold lr at q; omega) (by unfold lr at q; omega)) (fun a k _ => eJ a k) (fun a k _ _ => eR a k), h2.fr (k3 _ _ (by omega) (by omega)) (fun a k _ _ => k3 _ _ (by omega) (by omega)) (fun k => eR _ k), h0, ⟨k1, fun q hq => ?_⟩, ⟨(k3 _ _ (by omega) (by omega)).trans h5, (k3 _ _ (by omega) (by omega)).trans h6⟩, fun t ht => ?_, fun i hi => (h8 i hi).fr hi TE.rfl (fun a k q _ => k3 _ _ (by unfold lr at q; omega) (by unfold lr at q; omega)) (fun a k _ _ => eR a k) h0, G, (eJ _ _).trans h9, h10⟩, fun a k _ _ => ⟨k3 _ _ (by omega) (by omega), eJ a k, eR a k⟩⟩
      · have hq : q < S.n + 20 := hq
        show gI M5 (x + 1) q = (nI (if S.n ≤ q ∧ q < S.n + 20 then fby (fw a b c d e) (q - S.n) else S.b q)).toInt8.toInt32
        by_cases z : S.n ≤ q
        · rw [if_pos ⟨z, hq⟩]
          have := k2 (q - S.n) (by omega)
          rw [show S.n + (q - S.n) = q by omega] at this
          exact this
        · rw [if_neg (by omega)]
          exact (k3 _ _ (by omega) (by omega)).trans (h4 q (by omega))
      · obtain ⟨q1, q2, q3⟩ := h7 t ht
        exact ⟨(k3 _ _ (by omega) (by omega)).trans q1, fun z => (k3 _ _ (by omega) (by omega)).trans (q2 z), fun i hi => (eJ _ _).trans (q3 i hi)⟩
    · show Ok (fX12_feed T M (x + 69) a b c d e) _
      obtain ⟨h0, f0⟩ := h.t0 (v := 0)
      have hM := h0.1.1
      unfold fX12_feed
      rw [h.1.1.k, gdI, lte]
      generalize pI M (x + 69) 0 0 = M0 at h0 f0 hM ⊢
      have e5 : gI M0 (x + 69) 5 = nI S.n := h0.2.1.1
      rw [e5, i_20, i_900, nI_add, ite_le (by omega) (by omega), if_pos hn]
      refine Ok.bd (ok_forF (s := ((0 : Int32), M0)) 0 20 (fun i s => ∃ M', s = (nI i, M') ∧ gI M' (x + 69) 5 = nI (S.n + i) ∧ FI (x + 69) (fun a k => a = x + 69 ∧ k = 5 ∨ a = x + 69 + 3 ∧ S.n ≤ k) M0 M' ∧ ∀ q, q < i → gI M' (x + 69 + 3) (S.n + q) = nI (fby (fw a b c d e) q)) (fun M' => gI M' (x + 69) 5 = nI (S.n + 20) ∧ FI (x + 69) (fun a k => a = x + 69 ∧ k = 5 ∨ a = x + 69 + 3 ∧ S.n ≤ k) M0 M' ∧ ∀ q, q < 20 → gI M' (x + 69 + 3) (S.n + q) = nI (fby (fw a b c d e) q)) ⟨M0, rfl, e5, FI.rfl, fun q hq => absurd hq (by omega)⟩ (by omega) (by omega) (fun i s _ hi hI => ?_) (fun s hI => ?_)) (fun M' hq => ?_)
      · obtain ⟨M', rfl, g1, g2, g3⟩ := hI
        have hM' := hM.fr (M' := M') (fun k => g2.2.2 _ _ (by omega))
        show Ok (bX12_feed_24 T (x + 69) a b c d e (nI i) M') _
        have eb : bX12_feed_24 T (x + 69) a b c d e (nI i) M' = jX12_feed_77 T M' (x + 69) a b c d e (nI i) (fw a b c d e (i / 4)) := by
          unfold bX12_feed_24
          rw [i_20, i_4, i_8, i_12, i_16, ite_le (by omega) (by omega), ite_le (by omega) (by omega), ite_le (by omega) (by omega), ite_le (by omega) (by omega), ite_le (by omega) (by omega), if_neg (by omega)]
          rcases (by omega : i / 4 = 0 ∨ i / 4 = 1 ∨ i / 4 = 2 ∨ i / 4 = 3 ∨ i / 4 = 4) with z | z | z | z | z
          · rw [if_neg (by omega), z]; rfl
          · rw [if_pos (by omega), if_neg (by omega), z]; rfl
          · rw [if_pos (by omega), if_pos (by omega), if_neg (by omega), z]; rfl
          · rw [if_pos (by omega), if_pos (by omega), if_pos (by omega), if_neg (by omega), z]; rfl
          · rw [if_pos (by omega), if_pos (by omega), if_pos (by omega), if_pos (by omega), z]; rfl
        rw [eb]
        unfold jX12_feed_77
        rw [i_24, i_8, i_4, c_rem (by omega) (by omega) (by omega), c_mul, c_sub (by omega), by_and, g1]
        simp (disch := omega) only [gdI, gdT, Option.bind_some, lte, une2, une3, nI_add, gvI, cl_nI, c_le, c_lt, c_eq, Sum.elim_inl, Sum.elim_inr, hM'.k, hM'.r3, hM'.k3, hM'.l3, mIIn, g1, nI_1]
        have gn : gI (pI M' (x + 69 + 3) (S.n + i) (nI (fby (fw a b c d e) i))) (x + 69) 5 = nI (S.n + i) := (mIIn (by omega)).trans g1
        refine ok_i ⟨_, rfl, ?_, (g2.pI (Or.inr ⟨rfl, by omega⟩)).pI (Or.inl ⟨rfl, rfl⟩), fun q hq => ?_⟩
        · rw [mII1]; rfl
        · rw [mIIn (by omega), mII]
          by_cases z : q = i
          · rw [if_pos ⟨rfl, by omega⟩, z]; rfl
          · rw [if_neg (by omega)]; exact g3 q (by omega)
      · obtain ⟨M', rfl, g1, g2, g3⟩ := hI
        show Ok (bX12_feed_24 T (x + 69) a b c d e (nI 20) M') _
        unfold bX12_feed_24
        rw [if_pos (by decide)]
        exact ok_i ⟨g1, g2, g3⟩
      · obtain ⟨g1, g2, g3⟩ := hq
        obtain ⟨⟨h1, h2⟩, ⟨h3, h4⟩, h5, h7, h8⟩ := h0
        have fI := g2.1
        refine ok_i ⟨g1, ⟨⟨h1.fr (fun k => g2.2.2 _ _ (by omega)), fun k hk => (fI _ _ (by omega)).trans (h2 k hk)⟩, ⟨g1, fun q hq => ?_⟩, ⟨(fI _ _ (by omega)).trans h5.1, (fI _ _ (by omega)).trans h5.2⟩, fun t ht => ?_, fun i hi => ?_⟩, f0.trans (g2.rf (fun a k q => by omega))⟩
        · have hq : q < S.n + 20 := hq
          show gI M' (x + 69 + 3) q = nI (if S.n ≤ q ∧ q < S.n + 20 then fby (fw a b c d e) (q - S.n) else S.b q)
          by_cases z : S.n ≤ q
          · rw [if_pos ⟨z, hq⟩]
            have := g3 (q - S.n) (by omega)
            rw [show S.n + (q - S.n) = q by omega] at this
            exact this
          · rw [if_neg (by omega)]
            exact (fI _ _ (by omega)).trans (h4 q (by omega))
        · obtain ⟨q1, q2, q3⟩ := h7 t ht
          exact ⟨fun z => (fI _ _ (by omega)).trans (q1 z), fun z => ⟨(fI _ _ (by omega)).trans (q2 z).1, (fI _ _ (by omega)).trans (q2 z).2⟩, fun i hi => (g2.2.1 _ _ (by omega)).trans (q3 i hi)⟩
        · have := h8 i hi
          show IMR (x + 69) i (S.im i) M'
          cases e : S.im i with
          | none => rw [e] at this; exact (fI _ _ (by omega)).trans this
          | some B => rw [e] at this; exact ⟨(fI _ _ (by omega)).trans this.1, fun k hk => (fI _ _ (by omega)).trans (this.2 k hk)⟩
  · refine qs_no hS (-5) (fun T M h => ?_) (fun T M h => ?_)
    · show fX11_feed T M x a b c d e = _
      unfold fX11_feed
      rw [h.1.px.k0, gdI, h.2.2.2.1.1, i_20, i_900, nI_add, ite_le (by omega) (by omega), if_neg hn]
    · show fX12_feed T M (x + 69) a b c d e = _
      obtain ⟨h0, f0⟩ := h.t0 (v := 0)
      have e5 := h0.2.1.1
      unfold fX12_feed
      rw [h.1.1.k, gdI, lte, e5, i_20, i_900, nI_add, ite_le (by omega) (by omega), if_neg hn]
end
