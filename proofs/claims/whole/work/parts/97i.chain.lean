section
variable {x m n N lw i o q d : Nat} {b : Nat → Nat} {sp u : Int32} {T : Sh} {M M1 M2 : Me}
theorem j_post {fc fr : Sh → Me → Option (Unit × Me)} {bc : Sh → Int32 → Me → Option ((Int32 × Me) ⊕ Me)} {br : Sh → Me → Option (Me ⊕ Me)} {Q0 Q : Nat} (opj : Nat → Option Nat) (hop : ∀ k j, opj k = some j → j < 6 ∧ k ≠ 26 ∧ k ≠ 27) (hN : N ≤ 900) (hT : TN n b N) (hQ : Q0 + 1 ≤ Q) (h0 : JEq x m n N b lw sp False Q0 d fc fr) (cs : ∀ T M c i, c < 900 → CBq x n N b T i M → opj (tK b n i) = none → bc T (nI c) M = some (.inr M)) (cg : ∀ T M c i j, c < 900 → CBq x n N b T i M → opj (tK b n i) = some j → bc T (nI c) M = Option.bind (fc T (pI M (x + 2) 1 (gI M (x + 2) 1 + 1))) (un2 fun _u M2 => Option.bind (fX6_put T M2 (x + 2) (nI (2 + j)) 0) (un2 fun _r M3 => some (.inl (nI (c + 1), M3))))) (rs : ∀ T M i, RBq m n N b T i M → opj (tK b n i) = none → br T M = some (.inr M)) (rg : ∀ T M i j (P : Me ⊕ Me → Prop), RBq m n N b T i M → opj (tK b n i) = some j → (∀ M1, RBq m n N b T (i + 1) M1 → FI m (tq m) M M1 → Ok (Option.bind (fr T M1) (un2 fun _u M2 => Option.bind (fX12_codes T M2 m (nI (3000 + j))) (un2 fun _u2 M3 => some (.inl M3)))) P) → Ok (br T M) P) : ∀ i o u, i ≤ N → o + 8 ≤ i → JLq x m n N b lw sp False Q d bc br i o u := by
  intro i0 o0 u0 hi0 ho0 i cc rc u v hS ho
  obtain ⟨s1, s2, s3, s4, s5, s6, s7, s8, s9⟩ := hS
  cases hk : opj (tK b n i) with
  | none => exact Or.inl ⟨fun T M c hc hM => cs T M c i hc hM.1 hk, fun T M q hM => rs T M i hM.1 hk⟩
  | some j =>
    obtain ⟨hj, k26, k27⟩ := hop _ _ hk
    have hlt := hT.lt s2 k26 k27
    right
    rcases h0 (i + 1) (o0 + cc.length) u (by omega) (by omega) with ⟨i2, cb2, rb, u2, vb, ⟨t1, t2, t3, t4, t5, t6, t7, t8, t9⟩, hc, hr⟩ | ⟨fk, iF, g1, g2, hc, hr⟩
    · left
      refine ⟨i2, cc ++ cb2 ++ [enc (2 + j) 0], rc ++ rb ++ [nI (3000 + j)], u2, fun w => btw (nI (3000 + j)) (v w) (vb w), by omega, ⟨by omega, t2, ?_, ?_, ex_bin hj s5 t5 (Nat.le_refl _) hQ, ?_, s7.trans t7, ?_, fun z => z.elim⟩, fun T M c hc9 hM hs => ?_, fun T M q hM hs => ?_⟩
      · simp only [List.length_append, List.length_cons, List.length_nil]; omega
      · simp only [List.length_append, List.length_cons, List.length_nil]; omega
      · intro w w2 e
        show btw (nI (3000 + j)) (v w) (vb w) = btw (nI (3000 + j)) (v w2) (vb w2)
        rw [s6.um t7 w w2 e, t6 w w2 e]
      · intro a ha e
        rcases t8 a ha e with z | z
        · exact s8 a ha z
        · exact Or.inr z
      · rw [cg T M c i j hc9 hM.1 hk]
        exact k_opd hM hs k26 k27 hc t3 (fun r M' h => ok_i ⟨M', rfl, h⟩)
      · refine rg T M i j _ hM.1 hk (fun M1 h1 f1 => ?_)
        exact r_opd hM h1 f1 hs hr t4 (fun M' h => ok_i ⟨M', rfl, h⟩)
    · right
      refine ⟨fk, iF, by omega, g2, fun T M c hc9 hM => ?_, fun T M q hM => ?_⟩
      · rw [cg T M c i j hc9 hM.1 hk]
        refine k_opdF hM k26 k27 hc (by omega) (fun r M' h => ok_i ⟨M', rfl, h.up (by omega)⟩)
      · refine rg T M i j _ hM.1 hk (fun M1 h1 f1 => ?_)
        exact r_opdF hM h1 f1 hr (fun M' h => ok_i ⟨M', rfl, h⟩)
theorem j_prel {fc fr : Sh → Me → Option (Unit × Me)} {bc : Sh → Int32 → Me → Option ((Int32 × Me) ⊕ Me)} {br : Sh → Me → Option (Me ⊕ Me)} {Q kt op : Nat} {kk : Int32} (hkk : (op = 9 ∧ kk = 3007) ∨ (op = 10 ∧ kk = 3008)) (h26 : kt ≠ 26) (h27 : kt ≠ 27) (hN : N ≤ 900) (hT : TN n b N) (h0 : JEq x m n N b lw sp True Q d fc fr) (cs : ∀ T M c i, c < 900 → CBq x n N b T i M → tK b n i ≠ kt → bc T (nI c) M = some (.inr M)) (cg : ∀ T M c i, c < 900 → CBq x n N b T i M → tK b n i = kt → bc T (nI c) M = Option.bind (fX6_put T (pI M (x + 2) 1 (gI M (x + 2) 1 + 1)) (x + 2) (nI op) 0) (un2 fun r8 M9 => Option.bind (fc T M9) (un2 fun _u M10 => Option.bind (fX6_land T M10 (x + 2) r8) (un2 fun _u2 M11 => some (.inl (nI (c + 1), M11)))))) (rs : ∀ T M i, RBq m n N b T i M → tK b n i ≠ kt → br T M = some (.inr M)) (rg : ∀ T M i (P : Me ⊕ Me → Prop), RBq m n N b T i M → tK b n i = kt → (∀ M1, RBq m n N b T (i + 1) M1 → FI m (tq m) M M1 → Ok (Option.bind (fr T M1) (un2 fun _u M2 => Option.bind (fX12_codes T M2 m kk) (un2 fun _u2 M3 => some (.inl M3)))) P) → Ok (br T M) P) : ∀ i o u, i ≤ N → o + 8 ≤ i → JLq x m n N b lw sp True Q d bc br i o u := by
  intro i0 o0 u0 hi0 ho0 i cc rc u v hS ho
  obtain ⟨s1, s2, s3, s4, s5, s6, s7, s8, s9⟩ := hS
  by_cases hk : tK b n i = kt
  rotate_left
  · exact Or.inl ⟨fun T M c hc hM => cs T M c i hc hM.1 hk, fun T M q hM => rs T M i hM.1 hk⟩
  · have k26 : tK b n i ≠ 26 := by rw [hk]; exact h26
    have k27 : tK b n i ≠ 27 := by rw [hk]; exact h27
    have hlt := hT.lt s2 k26 k27
    right
    rcases h0 (i + 1) (o0 + cc.length + 1) u (by omega) (by omega) with ⟨i2, cb2, rb, u2, vb, ⟨t1, t2, t3, t4, t5, t6, t7, t8, t9⟩, hc, hr⟩ | ⟨fk, iF, g1, g2, hc, hr⟩
    · left
      have hop : op < 13 := by omega
      have hex : EX Q o0 (cc ++ (enc op (o0 + cc.length + 1 + cb2.length) :: cb2)) (rc ++ rb ++ [kk]) (fun w => btw kk (v w) (vb w)) ∧ TVl (fun w => btw kk (v w) (vb w)) := by
        rcases hkk with ⟨e1, e2⟩ | ⟨e1, e2⟩
        · rw [e1, e2]; exact ex_and s5 (s9 trivial) t5 (t9 trivial) rfl (by omega)
        · rw [e1, e2]; exact ex_or s5 (s9 trivial) t5 (t9 trivial) rfl (by omega)
      refine ⟨i2, cc ++ (enc op (o0 + cc.length + 1 + cb2.length) :: cb2), rc ++ rb ++ [kk], u2, fun w => btw kk (v w) (vb w), by omega, ⟨by omega, t2, ?_, ?_, hex.1, ?_, s7.trans t7, ?_, fun _ => hex.2⟩, fun T M c hc9 hM hs => ?_, fun T M q hM hs => ?_⟩
      · simp only [List.length_append, List.length_cons]; omega
      · simp only [List.length_append, List.length_cons, List.length_nil]; omega
      · intro w w2 e
        show btw kk (v w) (vb w) = btw kk (v w2) (vb w2)
        rw [s6.um t7 w w2 e, t6 w w2 e]
      · intro a ha e
        rcases t8 a ha e with z | z
        · exact s8 a ha z
        · exact Or.inr z
      · rw [cg T M c i hc9 hM.1 hk]
        exact k_pre hop hM hs k26 k27 hc (fun M' h => ok_i ⟨M', rfl, h⟩)
      · refine rg T M i _ hM.1 hk (fun M1 h1 f1 => ?_)
        exact r_opd hM h1 f1 hs hr t4 (fun M' h => ok_i ⟨M', rfl, h⟩)
    · right
      refine ⟨fk, iF, by omega, g2, fun T M c hc9 hM => ?_, fun T M q hM => ?_⟩
      · rw [cg T M c i hc9 hM.1 hk]
        refine k_preF hM k26 k27 hc (fun M' h => ok_i ⟨M', rfl, h.up (by omega)⟩)
      · refine rg T M i _ hM.1 hk (fun M1 h1 f1 => ?_)
        exact r_opdF hM h1 f1 hr (fun M' h => ok_i ⟨M', rfl, h⟩)
/-- the readers of the class, of the reference -/
def FCq (x k w d : Nat) (T : Sh) (M : Me) : Option (Unit × Me) := fG6 k w T M (x + 2) (nI d)
def FRq (m k w d : Nat) (T : Sh) (M : Me) : Option (Unit × Me) := fG12 k w T M m (nI d)
theorem ck_lit {α : Type} {k : Nat} {c : Int32} {A B : α} (hc : c = ck k) (hk : vk k) : (if ck (tK b n i) = c then A else B) = if tK b n i = k then A else B := by rw [hc, ck_if (tK_v i) hk]
theorem j_term {kc kr Q : Nat} (hN : N ≤ 900) (hT : TN n b N) (h0 : JEq x m n N b lw sp False Q d (FCq x kc 5 d) (FRq m kr 5 d)) : JEq x m n N b lw sp False (Q + 1) d (FCq x (kc + 1) 4 d) (FRq m (kr + 1) 4 d) := by
  refine JEq.congr (j_chain (bc := fun T c M => bX6_readTerm_7 (fG6 kc) T (x + 2) (nI d) c M) (br := fun T M => bX12_readTerm_5 (fG12 kr) T m (nI d) M) hN h0 (Nat.le_succ _) (j_post (fun k => if k = 34 then some 2 else none) ?_ hN hT (Nat.le_refl _) h0 ?_ ?_ ?_ ?_) (fun T M c hc hp h => b6F_4 hp h hc) (fun T M hm h => b12F_4 hm h)) (fun T M => rfl) (fun T M => rfl)
  · intro k j h
    by_cases z : k = 34
    · rw [if_pos z] at h; cases h; omega
    · rw [if_neg z] at h; cases h
  · intro T M c i hc hM hk
    have nz : tK b n i ≠ 34 := fun z => by rw [if_pos z] at hk; cases hk
    show bX6_readTerm_7 (fG6 kc) T (x + 2) (nI d) (nI c) M = _
    unfold bX6_readTerm_7
    rw [i_900, ite_le (by omega) (by omega), if_neg (by omega), hM.1.k2, gdI, k_kind hM, Option.bind_some, ck_lit (c := 42) (k := 34) rfl (by unfold vk; omega), if_neg nz]
  · intro T M c i j hc hM hk
    have z : tK b n i = 34 := by
      by_cases z : tK b n i = 34
      · exact z
      · rw [if_neg z] at hk; cases hk
    rw [if_pos z] at hk
    cases hk
    show bX6_readTerm_7 (fG6 kc) T (x + 2) (nI d) (nI c) M = _
    unfold bX6_readTerm_7
    rw [i_900, ite_le (by omega) (by omega), if_neg (by omega), hM.1.k2, gdI, k_kind hM, Option.bind_some, ck_lit (c := 42) (k := 34) rfl (by unfold vk; omega), if_pos z]
    simp only [lte, nI_1]
    rfl
  · intro T M i hM hk
    have nz : tK b n i ≠ 34 := fun z => by rw [if_pos z] at hk; cases hk
    show bX12_readTerm_5 (fG12 kr) T m (nI d) M = _
    unfold bX12_readTerm_5
    rw [hM.1.1.k, gdI, r_eats0 hM i_34 (by omega) nz, Option.bind_some, une2, if_pos rfl]
  · intro T M i j P hM hk hK
    have z : tK b n i = 34 := by
      by_cases z : tK b n i = 34
      · exact z
      · rw [if_neg z] at hk; cases hk
    rw [if_pos z] at hk
    cases hk
    show Ok (bX12_readTerm_5 (fG12 kr) T m (nI d) M) P
    unfold bX12_readTerm_5
    rw [hM.1.1.k, gdI]
    refine Ok.bd (r_eats1 hM i_34 (by omega) z (by omega) (by omega)) (fun p hp => ?_)
    obtain ⟨p1, M1⟩ := p
    obtain ⟨e1, h1, f1⟩ := hp
    have e1 : p1 = 1 := e1
    rw [une2, e1, if_neg (by decide)]
    exact hK M1 h1 f1
theorem j_sum {kc kr Q : Nat} (hN : N ≤ 900) (hT : TN n b N) (h0 : JEq x m n N b lw sp False Q d (FCq x kc 4 d) (FRq m kr 4 d)) : JEq x m n N b lw sp False (Q + 1) d (FCq x (kc + 1) 3 d) (FRq m (kr + 1) 3 d) := by
  have hcase : ∀ k j, (if k = 32 then some 0 else if k = 33 then some 1 else none) = some j → (k = 32 ∧ j = 0) ∨ (k = 33 ∧ j = 1) := by
    intro k j h
    by_cases z : k = 32
    · rw [if_pos z] at h; cases h; exact Or.inl ⟨z, rfl⟩
    · rw [if_neg z] at h
      by_cases y : k = 33
      · rw [if_pos y] at h; cases h; exact Or.inr ⟨y, rfl⟩
      · rw [if_neg y] at h; cases h
  have hnone : ∀ k, (if k = 32 then some 0 else if k = 33 then some 1 else none : Option Nat) = none → k ≠ 32 ∧ k ≠ 33 := by
    intro k h
    by_cases z : k = 32
    · rw [if_pos z] at h; cases h
    · rw [if_neg z] at h
      by_cases y : k = 33
      · rw [if_pos y] at h; cases h
      · exact ⟨z, y⟩
  refine JEq.congr (j_chain (bc := fun T c M => bX6_readSum_7 (fG6 kc) T (x + 2) (nI d) c M) (br := fun T M => bX12_readSum_5 (fG12 kr) T m (nI d) M) hN h0 (Nat.le_succ _) (j_post (fun k => if k = 32 then some 0 else if k = 33 then some 1 else none) ?_ hN hT (Nat.le_refl _) h0 ?_ ?_ ?_ ?_) (fun T M c hc hp h => b6F_3 hp h hc) (fun T M hm h => b12F_3 hm h)) (fun T M => rfl) (fun T M => rfl)
  · intro k j h
    rcases hcase k j h with z | z <;> omega
  · intro T M c i hc hM hk
    obtain ⟨n1, n2⟩ := hnone _ hk
    show bX6_readSum_7 (fG6 kc) T (x + 2) (nI d) (nI c) M = _
    unfold bX6_readSum_7
    rw [i_900, ite_le (by omega) (by omega), if_neg (by omega), hM.1.k2, gdI, k_kind hM, Option.bind_some, ck_lit (c := 43) (k := 32) rfl (by unfold vk; omega), if_neg n1, Option.bind_some, ck_lit (c := 45) (k := 33) rfl (by unfold vk; omega), if_neg n2]
  · intro T M c i j hc hM hk
    show bX6_readSum_7 (fG6 kc) T (x + 2) (nI d) (nI c) M = _
    unfold bX6_readSum_7 jX6_readSum_32 jX6_readSum_46
    rcases hcase _ j hk with ⟨z, rfl⟩ | ⟨z, rfl⟩
    · rw [i_900, ite_le (by omega) (by omega), if_neg (by omega), hM.1.k2, gdI, k_kind hM, Option.bind_some, ck_lit (c := 43) (k := 32) rfl (by unfold vk; omega), if_pos z, gdI, Option.bind_some, ck_lit (c := 43) (k := 32) rfl (by unfold vk; omega), if_pos z, gdI]
      simp only [lte, nI_1]
      rfl
    · rw [i_900, ite_le (by omega) (by omega), if_neg (by omega), hM.1.k2, gdI, k_kind hM, Option.bind_some, ck_lit (c := 43) (k := 32) rfl (by unfold vk; omega), if_neg (by omega), Option.bind_some, ck_lit (c := 45) (k := 33) rfl (by unfold vk; omega), if_pos z, gdI, Option.bind_some, ck_lit (c := 43) (k := 32) rfl (by unfold vk; omega), if_neg (by omega), gdI]
      simp only [lte, nI_1]
      rfl
  · intro T M i hM hk
    obtain ⟨n1, n2⟩ := hnone _ hk
    show bX12_readSum_5 (fG12 kr) T m (nI d) M = _
    unfold bX12_readSum_5
    rw [hM.1.1.k, gdI, r_is hM i_32 (by omega), if_neg n1, Option.bind_some, if_pos rfl, r_is hM i_33 (by omega), if_neg n2, Option.bind_some, if_pos rfl]
  · intro T M i j P hM hk hK
    have k42 := hM.k42
    have nx : ∀ h26 : tK b n i ≠ 26, ∀ h27 : tK b n i ≠ 27, ∀ kk : Int32, kk = nI (3000 + j) → Ok (Option.bind (fX12_next T M m) (un2 fun _u M11 => Option.bind (fG12 kr 4 T M11 m (nI d)) (un2 fun _u M12 => Option.bind (fX12_codes T M12 m kk) (un2 fun _u M13 => some (.inl M13))))) P := by
      intro h26 h27 kk e
      refine Ok.bd (r_next hM h26 h27) (fun p hp => ?_)
      obtain ⟨p1, M1⟩ := p
      rw [une2, e]
      exact hK M1 hp.1 hp.2
    show Ok (bX12_readSum_5 (fG12 kr) T m (nI d) M) P
    unfold bX12_readSum_5 jX12_readSum_23
    rcases hcase _ j hk with ⟨z, rfl⟩ | ⟨z, rfl⟩
    · rw [hM.1.1.k, gdI, r_is hM i_32 (by omega), if_pos z, Option.bind_some, if_neg (by decide), gdI, hM.2.2.2.1, i_32, ite_eq (by omega) (by omega), if_pos z]
      exact nx (by omega) (by omega) _ rfl
    · rw [hM.1.1.k, gdI, r_is hM i_32 (by omega), if_neg (by omega), Option.bind_some, if_pos rfl, r_is hM i_33 (by omega), if_pos z, Option.bind_some, if_neg (by decide), gdI, hM.2.2.2.1, i_32, ite_eq (by omega) (by omega), if_neg (by omega)]
      exact nx (by omega) (by omega) _ rfl
theorem j_both {kc kr Q : Nat} (hN : N ≤ 900) (hT : TN n b N) (h0 : JEq x m n N b lw sp True Q d (FCq x kc 2 d) (FRq m kr 2 d)) : JEq x m n N b lw sp True Q d (FCq x (kc + 1) 1 d) (FRq m (kr + 1) 1 d) := by
  refine JEq.congr (j_chain (bc := fun T c M => bX6_readBoth_7 (fG6 kc) T (x + 2) (nI d) c M) (br := fun T M => bX12_readBoth_5 (fG12 kr) T m (nI d) M) hN h0 (Nat.le_refl _) (j_prel (kt := 20) (Or.inl ⟨rfl, rfl⟩) (by omega) (by omega) hN hT h0 ?_ ?_ ?_ ?_) (fun T M c hc hp h => b6F_1 hp h hc) (fun T M hm h => b12F_1 hm h)) (fun T M => rfl) (fun T M => rfl)
  · intro T M c i hc hM nz
    show bX6_readBoth_7 (fG6 kc) T (x + 2) (nI d) (nI c) M = _
    unfold bX6_readBoth_7
    rw [i_900, ite_le (by omega) (by omega), if_neg (by omega), hM.1.k2, gdI, k_kind hM, Option.bind_some, ck_lit (c := 221) (k := 20) rfl (by unfold vk; omega), if_neg nz]
  · intro T M c i hc hM z
    show bX6_readBoth_7 (fG6 kc) T (x + 2) (nI d) (nI c) M = _
    unfold bX6_readBoth_7
    rw [i_900, ite_le (by omega) (by omega), if_neg (by omega), hM.1.k2, gdI, k_kind hM, Option.bind_some, ck_lit (c := 221) (k := 20) rfl (by unfold vk; omega), if_pos z]
    simp only [lte, nI_1]
    rfl
  · intro T M i hM nz
    show bX12_readBoth_5 (fG12 kr) T m (nI d) M = _
    unfold bX12_readBoth_5
    rw [hM.1.1.k, gdI, r_eats0 hM i_20 (by omega) nz, Option.bind_some, une2, if_pos rfl]
  · intro T M i P hM z hK
    show Ok (bX12_readBoth_5 (fG12 kr) T m (nI d) M) P
    unfold bX12_readBoth_5
    rw [hM.1.1.k, gdI]
    refine Ok.bd (r_eats1 hM i_20 (by omega) z (by omega) (by omega)) (fun p hp => ?_)
    obtain ⟨p1, M1⟩ := p
    obtain ⟨e1, h1, f1⟩ := hp
    have e1 : p1 = 1 := e1
    rw [une2, e1, if_neg (by decide)]
    exact hK M1 h1 f1
theorem j_truth {kc kr Q : Nat} (hN : N ≤ 900) (hT : TN n b N) (h0 : JEq x m n N b lw sp True Q d (FCq x kc 1 d) (FRq m kr 1 d)) : JEq x m n N b lw sp True Q d (FCq x (kc + 1) 0 d) (FRq m (kr + 1) 0 d) := by
  refine JEq.congr (j_chain (bc := fun T c M => bX6_readTruth_7 (fG6 kc) T (x + 2) (nI d) c M) (br := fun T M => bX12_readTruth_5 (fG12 kr) T m (nI d) M) hN h0 (Nat.le_refl _) (j_prel (kt := 21) (Or.inr ⟨rfl, rfl⟩) (by omega) (by omega) hN hT h0 ?_ ?_ ?_ ?_) (fun T M c hc hp h => b6F_0 hp h hc) (fun T M hm h => b12F_0 hm h)) (fun T M => rfl) (fun T M => rfl)
  · intro T M c i hc hM nz
    show bX6_readTruth_7 (fG6 kc) T (x + 2) (nI d) (nI c) M = _
    unfold bX6_readTruth_7
    rw [i_900, ite_le (by omega) (by omega), if_neg (by omega), hM.1.k2, gdI, k_kind hM, Option.bind_some, ck_lit (c := 220) (k := 21) rfl (by unfold vk; omega), if_neg nz]
  · intro T M c i hc hM z
    show bX6_readTruth_7 (fG6 kc) T (x + 2) (nI d) (nI c) M = _
    unfold bX6_readTruth_7
    rw [i_900, ite_le (by omega) (by omega), if_neg (by omega), hM.1.k2, gdI, k_kind hM, Option.bind_some, ck_lit (c := 220) (k := 21) rfl (by unfold vk; omega), if_pos z]
    simp only [lte, nI_1]
    rfl
  · intro T M i hM nz
    show bX12_readTruth_5 (fG12 kr) T m (nI d) M = _
    unfold bX12_readTruth_5
    rw [hM.1.1.k, gdI, r_eats0 hM i_21 (by omega) nz, Option.bind_some, une2, if_pos rfl]
  · intro T M i P hM z hK
    show Ok (bX12_readTruth_5 (fG12 kr) T m (nI d) M) P
    unfold bX12_readTruth_5
    rw [hM.1.1.k, gdI]
    refine Ok.bd (r_eats1 hM i_21 (by omega) z (by omega) (by omega)) (fun p hp => ?_)
    obtain ⟨p1, M1⟩ := p
    obtain ⟨e1, h1, f1⟩ := hp
    have e1 : p1 = 1 := e1
    rw [une2, e1, if_neg (by decide)]
    exact hK M1 h1 f1
end
