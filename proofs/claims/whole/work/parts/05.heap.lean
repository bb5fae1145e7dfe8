theorem PW.set {B : Bx} {T : Sh} {M M' : Me} {H H1 : Heap} {a : Nat} {e : va_E} (h : PW B T M H) (hk : kd T a < 19) (hM : ∀ q, cel B.1 T M' q = if q = a then e else cel B.1 T M q) (he : va_at B.2.1 kCl (a, e) H1) (z : H1.size = H.size) (oq : ∀ q, q ≠ a → H1[q]? = H[q]?) : PW B T M' H1 := by
  obtain ⟨g1, g2, g3, g4⟩ := h
  have hr := g3 a hk
  refine ⟨z.trans g1, g2, g3, ?_⟩
  have h5 := va_P.set g4 pl_D (pl_at hr.1 (by omega)) he oq
  unfold wl at h5 ⊢
  rw [pl_set (g := cel B.1 T M') hr.1 (by omega) hM] at h5
  exact h5
def Cl (ci : Nat) (Cn : String) (Tb : u_T) (N : Nat) (ty : Nat → FieldType) : Prop := ci < 12 ∧ kCl[ci]? = some (Cn, Tb, N) ∧ (∀ w ∈ u_ws Cn Tb N, w ∈ lw_gd) ∧ (∀ k, k < N → parseFieldDescriptor (Tb k).2.2.1 = some (ty k)) ∧ (∀ a, a < N → ∀ b, b < N → a ≠ b → (Tb a).2.1 ≠ (Tb b).2.1) ∧ (fts ci).length = N
theorem kX1 : Cl 0 RX1 TX1 1 tyX1 := ⟨by decide, rfl, inX1, tyX1_ok, nmX1, rfl⟩
theorem kX2 : Cl 1 RX2 TX2 2 tyX2 := ⟨by decide, rfl, inX2, tyX2_ok, nmX2, rfl⟩
theorem kX3 : Cl 2 RX3 TX3 13 tyX3 := ⟨by decide, rfl, inX3, tyX3_ok, nmX3, rfl⟩
theorem kX4 : Cl 3 RX4 TX4 2 tyX4 := ⟨by decide, rfl, inX4, tyX4_ok, nmX4, rfl⟩
theorem kX5 : Cl 4 RX5 TX5 6 tyX5 := ⟨by decide, rfl, inX5, tyX5_ok, nmX5, rfl⟩
theorem kX6 : Cl 5 RX6 TX6 8 tyX6 := ⟨by decide, rfl, inX6, tyX6_ok, nmX6, rfl⟩
theorem kX7 : Cl 6 RX7 TX7 14 tyX7 := ⟨by decide, rfl, inX7, tyX7_ok, nmX7, rfl⟩
theorem kX8 : Cl 7 RX8 TX8 3 tyX8 := ⟨by decide, rfl, inX8, tyX8_ok, nmX8, rfl⟩
theorem kX9 : Cl 8 RX9 TX9 4 tyX9 := ⟨by decide, rfl, inX9, tyX9_ok, nmX9, rfl⟩
theorem kX10 : Cl 9 RX10 TX10 3 tyX10 := ⟨by decide, rfl, inX10, tyX10_ok, nmX10, rfl⟩
theorem kX11 : Cl 10 RX11 TX11 14 tyX11 := ⟨by decide, rfl, inX11, tyX11_ok, nmX11, rfl⟩
theorem kX12 : Cl 11 RX12 TX12 43 tyX12 := ⟨by decide, rfl, inX12, tyX12_ok, nmX12, rfl⟩
theorem g_get {X : Fx} {B : Bx} {cc : ByteArray} {nL : Nat} {own : String} {d : Nat} {Z : Nat × Nat × Nat × Nat} {Q : State → Prop} {pc : Nat} {lo : List (Nat × Value)} {st : List Value} {T : Sh} {M : Me} {ci N idx a : Nat} {Cn : String} {Tb : u_T} {ty : Nat → FieldType} {v : Value} (C : Cx X B cc nL own d Z) (hd : decode cc pc = .ok (.getfield idx, 3)) (K : Cl ci Cn Tb N ty) (hk : kd T a = ci) (k : Nat) (hkN : k < N) (hw : Cond.fieldLink own idx (Tb k).1 (Tb k).2.1 (Tb k).2.2.1 ∈ lw_gd) (hv : (fvs M a (fts ci) 0)[k]? = some v)
    (kk : G X B nL Z Q (pc + 3) lo (v :: st) T M) : G X B nL Z Q (pc) lo (.ref a :: st) T M := by
  obtain ⟨p, l, e, R, s, m, args, below, meth, c⟩ := X
  intro H locs ls hl hP hS h1 h2 h3 h4
  have he := hP.at (a := a) (by have := K.1; omega)
  rw [cel_o hk K.1] at he
  exact va_get C.1 C.2.1 C.2.2.2.2.1 K.2.2.1 C.2.2.2.1 C.2.2.2.2.2.1 hP.2.2.2 (a - B.2.2.1) he K.2.1 k hkN (C.2.2.2.2.1 _ hw) (fun _ h => h) hv hd (kk H locs ls hl hP hS h1 h2 h3 h4)
theorem put_k {X : Fx} {B : Bx} {cc : ByteArray} {nL : Nat} {own : String} {d : Nat} {Z : Nat × Nat × Nat × Nat} {Q : State → Prop} {pc : Nat} {st : List Value} {T : Sh} {M M' : Me} {H : Heap} {locs : List Loc} {ls : Array Slot} {cells slots : Nat} {ci N idx a : Nat} {Cn : String} {Tb : u_T} {ty : Nat → FieldType} {v : Value} {ft : FieldType} (C : Cx X B cc nL own d Z) (hd : decode cc pc = .ok (.putfield idx, 3)) (K : Cl ci Cn Tb N ty) (hk : kd T a = ci) (k : Nat) (hkN : k < N) (hfin : (Tb k).2.2.2 = false ∨ ((Tb k).2.2.2 = true ∧ X.2.2.2.2.2.2.2.2.1.name = "<init>" ∧ (Tb k).1 = own)) (hft : parseFieldDescriptor (Tb k).2.2.1 = some ft) (hn : narrow ft v = v) (hfit : fits ft v = true) (hw : Cond.fieldLink own idx (Tb k).1 (Tb k).2.1 (Tb k).2.2.1 ∈ lw_gd)
    (hM : ∀ q, cel B.1 T M' q = if q = a then .inr (ci, (fvs M a (fts ci) 0).set k v) else cel B.1 T M q) (hP : PW B T M H) (hS : va_S (fun q => B.2.2.1 ≤ q) X.2.2.2.2.1.heap H locs)
    (kk : ∀ (H1 : Heap) (locs1 : List Loc), PW B T M' H1 → va_S (fun q => B.2.2.1 ≤ q) X.2.2.2.2.1.heap H1 locs1 → W X.1 X.2.1 X.2.2.1 X.2.2.2.1 X.2.2.2.2.1 X.2.2.2.2.2.1 X.2.2.2.2.2.2.1 X.2.2.2.2.2.2.2.1 X.2.2.2.2.2.2.2.2.1 X.2.2.2.2.2.2.2.2.2 H1 locs1 cells slots Q (F0 X.2.2.2.2.2.1 (pc + 3) ls st)) :
    W X.1 X.2.1 X.2.2.1 X.2.2.2.1 X.2.2.2.2.1 X.2.2.2.2.2.1 X.2.2.2.2.2.2.1 X.2.2.2.2.2.2.2.1 X.2.2.2.2.2.2.2.2.1 X.2.2.2.2.2.2.2.2.2 H locs cells slots Q (F0 X.2.2.2.2.2.1 pc ls (v :: .ref a :: st)) := by
  obtain ⟨p, l, e, R, s, m, args, below, meth, c⟩ := X
  obtain ⟨hx, hb, -, hown, hts, hK, -⟩ := C
  dsimp only at hx hb hown hts hK hfin kk hS ⊢
  obtain ⟨hc12, hc, hin, hty, hnm, hlen⟩ := K
  have hk19 : kd T a < 19 := by omega
  have hr := hP.2.2.1 a hk19
  have he := hP.at hk19
  rw [cel_o hk hc12] at he
  have hap := va_apart (own := own) hts hin ty hty hnm hK hc
  obtain ⟨r, q0, cell, q1, q2, q3, q4⟩ := hP.2.2.2 (a - B.2.2.1) _ he
  have hr' : r = (Cn, Tb, N) := Option.some.inj (q0.symm.trans hc)
  subst hr'
  obtain ⟨hSl, hfc, kC, hkC, hkind⟩ := hK.1 ci _ hc
  obtain ⟨cf, kf, fi, f, hi, hsl⟩ := hSl k hkN
  have hst := (u_facts hfc hkC (u_lays hts hin hkN) hi).1
  have hl : k < (fvs M a (fts ci) 0).length := by rw [fvs_len, hlen]; exact hkN
  have hlay := hts _ (hin _ (u_in_lay hkN))
  unfold u_lay at hlay
  rcases hfin with hfin | ⟨hfin, hin2, hdecl⟩
  · rw [if_neg (by rw [hfin]; decide)] at hlay
    have h6 := u_store hfc hkC hkind hlay hi hft hn hfit
    refine W.putK hx hb (f := f) ⟨hown, hts _ hw, ⟨_, _, _, hi⟩, hst⟩ (by rw [q2]; exact h6) q1 q3 (by rw [hsl]; exact k2_hasslot (q4 k hkN)) rfl rfl hd fun H' e1 e2 e3 => ?_
    rw [hsl] at e1 ⊢
    exact kk H' _ (hP.set hk19 hM ⟨_, hc, t_OB.to (V := updV (vp_V (fvs M a (fts ci) 0)) k v) ⟨_, e1, q2, q3, t_set q4 hap hkN v⟩ (fun j _ => vp_updV_set hl v j)⟩ e2 e3) (hS.put e2 e3 hr.1)
  · rw [if_pos hfin] at hlay
    have hcf : m.cls = cf := by
      obtain ⟨_, _, c', _, _, _, -, -, hf', -, -, -, hown2, -⟩ := Cond.laysFinal_spec hlay
      have e1 : c' = cf := by have := hi.symm.trans hf'; simp at this; exact this.1.symm
      rw [hdecl] at hown2
      rw [← e1]; exact Option.some.inj (hown.symm.trans hown2)
    have h6 := u_fits hfc hkC hkind (Or.inr hlay) hi hft hn hfit
    refine W.putFinK hx hb hown (hts _ hw) hi hst hcf hin2 (by rw [q2]; exact h6) q1 q3 (by rw [hsl]; exact k2_hasslot (q4 k hkN)) rfl rfl hd fun H' e1 e2 e3 => ?_
    rw [hsl] at e1 ⊢
    exact kk H' _ (hP.set hk19 hM ⟨_, hc, t_OB.to (V := updV (vp_V (fvs M a (fts ci) 0)) k v) ⟨_, e1, q2, q3, t_set q4 hap hkN v⟩ (fun j _ => vp_updV_set hl v j)⟩ e2 e3) (hS.put e2 e3 hr.1)
theorem cel_put {cy : Nat → ClassId} {T : Sh} {M M' : Me} {a ci k : Nat} {v : Value} (hk : kd T a = ci) (hc : ci < 12) (hj : k < (fts ci).length) (h : ∀ (i t : Nat), (fts ci)[i]? = some t → fv M' a t i = if i = k then v else fv M a t i) (h1 : ∀ q, q ≠ a → M'.1 q = M.1 q ∧ M'.2.1 q = M.2.1 q ∧ M'.2.2 q = M.2.2 q) (q : Nat) : cel cy T M' q = if q = a then .inr (ci, (fvs M a (fts ci) 0).set k v) else cel cy T M q := by
  by_cases hq : q = a
  · subst hq
    rw [if_pos rfl, cel_o hk hc, fvs_set (fts ci) hj h]
  · rw [if_neg hq]
    obtain ⟨e1, e2, e3⟩ := h1 q hq
    exact cel_ne e1 e2 e3
theorem cel_pI {cy : Nat → ClassId} {T : Sh} {M : Me} {a ci k : Nat} {x : Int32} (hk : kd T a = ci) (hc : ci < 12) (hj : (fts ci)[k]? = some 0) (q : Nat) : cel cy T (pI M a k x) q = if q = a then .inr (ci, (fvs M a (fts ci) 0).set k (.int x)) else cel cy T M q := by
  refine cel_put (M := M) (M' := pI M a k x) hk hc (List.getElem?_eq_some_iff.mp hj).1 (fun i t ht => ?_) (fun q hq => ⟨up2_ne hq, rfl, rfl⟩) q
  by_cases hi : i = k
  · subst hi
    rw [hj] at ht
    cases ht
    rw [if_pos rfl]
    simp [fv, gI, pI, up2]
  · rw [if_neg hi]
    unfold fv
    split <;> simp [gI, gJ, gR, pI, up2, hi]
theorem cel_pJ {cy : Nat → ClassId} {T : Sh} {M : Me} {a ci k : Nat} {x : Int64} (hk : kd T a = ci) (hc : ci < 12) (hj : (fts ci)[k]? = some 1) (q : Nat) : cel cy T (pJ M a k x) q = if q = a then .inr (ci, (fvs M a (fts ci) 0).set k (.long x)) else cel cy T M q := by
  refine cel_put (M := M) (M' := pJ M a k x) hk hc (List.getElem?_eq_some_iff.mp hj).1 (fun i t ht => ?_) (fun q hq => ⟨rfl, up2_ne hq, rfl⟩) q
  by_cases hi : i = k
  · subst hi
    rw [hj] at ht
    cases ht
    rw [if_pos rfl]
    simp [fv, gJ, pJ, up2]
  · rw [if_neg hi]
    unfold fv
    split <;> simp [gI, gJ, gR, pJ, up2, hi]
theorem cel_pR {cy : Nat → ClassId} {T : Sh} {M : Me} {a ci k : Nat} {x : Option Nat} (hk : kd T a = ci) (hc : ci < 12) (hj : (fts ci)[k]? = some 2) (q : Nat) : cel cy T (pR M a k x) q = if q = a then .inr (ci, (fvs M a (fts ci) 0).set k (va_rf x)) else cel cy T M q := by
  refine cel_put (M := M) (M' := pR M a k x) hk hc (List.getElem?_eq_some_iff.mp hj).1 (fun i t ht => ?_) (fun q hq => ⟨rfl, rfl, up2_ne hq⟩) q
  by_cases hi : i = k
  · subst hi
    rw [hj] at ht
    cases ht
    rw [if_pos rfl]
    simp [fv, gR, pR, up2]
  · rw [if_neg hi]
    unfold fv
    split <;> simp [gI, gJ, gR, pR, up2, hi]
theorem g_putI {X : Fx} {B : Bx} {cc : ByteArray} {nL : Nat} {own : String} {d : Nat} {Z : Nat × Nat × Nat × Nat} {Q : State → Prop} {pc : Nat} {lo : List (Nat × Value)} {st : List Value} {T : Sh} {M : Me} {ci N idx a : Nat} {Cn : String} {Tb : u_T} {ty : Nat → FieldType} {x : Int32} (C : Cx X B cc nL own d Z)  (hd : decode cc pc = .ok (.putfield idx, 3)) (K : Cl ci Cn Tb N ty) (hk : kd T a = ci) (k : Nat) (hkN : k < N) (hj : (fts ci)[k]? = some 0) (hfin : (Tb k).2.2.2 = false) (hft : parseFieldDescriptor (Tb k).2.2.1 = some .int) (hw : Cond.fieldLink own idx (Tb k).1 (Tb k).2.1 (Tb k).2.2.1 ∈ lw_gd)
    (kk : G X B nL Z Q (pc + 3) lo st T (pI M a k x)) : G X B nL Z Q (pc) lo (.int x :: .ref a :: st) T M := by
  intro H locs ls hl hP hS h1 h2 h3 h4
  exact put_k C hd K hk k hkN (Or.inl hfin) hft rfl rfl hw (cel_pI hk K.1 hj) hP hS (fun H1 locs1 hP1 hS1 => kk H1 locs1 ls hl hP1 hS1 h1 h2 h3 h4)
theorem g_putJ {X : Fx} {B : Bx} {cc : ByteArray} {nL : Nat} {own : String} {d : Nat} {Z : Nat × Nat × Nat × Nat} {Q : State → Prop} {pc : Nat} {lo : List (Nat × Value)} {st : List Value} {T : Sh} {M : Me} {ci N idx a : Nat} {Cn : String} {Tb : u_T} {ty : Nat → FieldType} {x : Int64} (C : Cx X B cc nL own d Z)  (hd : decode cc pc = .ok (.putfield idx, 3)) (K : Cl ci Cn Tb N ty) (hk : kd T a = ci) (k : Nat) (hkN : k < N) (hj : (fts ci)[k]? = some 1) (hfin : (Tb k).2.2.2 = false) (hft : parseFieldDescriptor (Tb k).2.2.1 = some .long) (hw : Cond.fieldLink own idx (Tb k).1 (Tb k).2.1 (Tb k).2.2.1 ∈ lw_gd)
    (kk : G X B nL Z Q (pc + 3) lo st T (pJ M a k x)) : G X B nL Z Q (pc) lo (.long x :: .ref a :: st) T M := by
  intro H locs ls hl hP hS h1 h2 h3 h4
  exact put_k C hd K hk k hkN (Or.inl hfin) hft rfl rfl hw (cel_pJ hk K.1 hj) hP hS (fun H1 locs1 hP1 hS1 => kk H1 locs1 ls hl hP1 hS1 h1 h2 h3 h4)
theorem nar_r {ft : FieldType} (h : (∃ n, ft = .object n) ∨ ∃ t, ft = .array t) {x : Option Nat} : narrow ft (va_rf x) = va_rf x := by
  cases x <;> rcases h with ⟨n, rfl⟩ | ⟨t, rfl⟩ <;> rfl
theorem fit_r {ft : FieldType} (h : (∃ n, ft = .object n) ∨ ∃ t, ft = .array t) {x : Option Nat} : fits ft (va_rf x) = true := by
  cases x <;> rcases h with ⟨n, rfl⟩ | ⟨t, rfl⟩ <;> rfl
theorem g_putR {X : Fx} {B : Bx} {cc : ByteArray} {nL : Nat} {own : String} {d : Nat} {Z : Nat × Nat × Nat × Nat} {Q : State → Prop} {pc : Nat} {lo : List (Nat × Value)} {st : List Value} {T : Sh} {M : Me} {ci N idx a : Nat} {Cn : String} {Tb : u_T} {ty : Nat → FieldType} {x : Option Nat} (C : Cx X B cc nL own d Z)  (hd : decode cc pc = .ok (.putfield idx, 3)) (K : Cl ci Cn Tb N ty) (hk : kd T a = ci) (k : Nat) (hkN : k < N) (hj : (fts ci)[k]? = some 2) (hfin : (Tb k).2.2.2 = false) {ft : FieldType} (hft : parseFieldDescriptor (Tb k).2.2.1 = some ft) (hrf : (∃ n, ft = .object n) ∨ ∃ t, ft = .array t) (hw : Cond.fieldLink own idx (Tb k).1 (Tb k).2.1 (Tb k).2.2.1 ∈ lw_gd)
    (kk : G X B nL Z Q (pc + 3) lo st T (pR M a k x)) : G X B nL Z Q (pc) lo (va_rf x :: .ref a :: st) T M := by
  intro H locs ls hl hP hS h1 h2 h3 h4
  exact put_k C hd K hk k hkN (Or.inl hfin) hft (nar_r hrf) (fit_r hrf) hw (cel_pR hk K.1 hj) hP hS (fun H1 locs1 hP1 hS1 => kk H1 locs1 ls hl hP1 hS1 h1 h2 h3 h4)
theorem g_putRF {X : Fx} {B : Bx} {cc : ByteArray} {nL : Nat} {own : String} {d : Nat} {Z : Nat × Nat × Nat × Nat} {Q : State → Prop} {pc : Nat} {lo : List (Nat × Value)} {st : List Value} {T : Sh} {M : Me} {ci N idx a : Nat} {Cn : String} {Tb : u_T} {ty : Nat → FieldType} {x : Option Nat} (C : Cx X B cc nL own d Z) (hin2 : X.2.2.2.2.2.2.2.2.1.name = "<init>") (hd : decode cc pc = .ok (.putfield idx, 3)) (K : Cl ci Cn Tb N ty) (hk : kd T a = ci) (k : Nat) (hkN : k < N) (hj : (fts ci)[k]? = some 2)  {ft : FieldType} (hft : parseFieldDescriptor (Tb k).2.2.1 = some ft) (hrf : (∃ n, ft = .object n) ∨ ∃ t, ft = .array t) (hfin : (Tb k).2.2.2 = true ∧ (Tb k).1 = own) (hw : Cond.fieldLink own idx (Tb k).1 (Tb k).2.1 (Tb k).2.2.1 ∈ lw_gd)
    (kk : G X B nL Z Q (pc + 3) lo st T (pR M a k x)) : G X B nL Z Q (pc) lo (va_rf x :: .ref a :: st) T M := by
  intro H locs ls hl hP hS h1 h2 h3 h4
  exact put_k C hd K hk k hkN (Or.inr ⟨hfin.1, hin2, hfin.2⟩) hft (nar_r hrf) (fit_r hrf) hw (cel_pR hk K.1 hj) hP hS (fun H1 locs1 hP1 hS1 => kk H1 locs1 ls hl hP1 hS1 h1 h2 h3 h4)
theorem g_putIF {X : Fx} {B : Bx} {cc : ByteArray} {nL : Nat} {own : String} {d : Nat} {Z : Nat × Nat × Nat × Nat} {Q : State → Prop} {pc : Nat} {lo : List (Nat × Value)} {st : List Value} {T : Sh} {M : Me} {ci N idx a : Nat} {Cn : String} {Tb : u_T} {ty : Nat → FieldType} {x : Int32} (C : Cx X B cc nL own d Z) (hin2 : X.2.2.2.2.2.2.2.2.1.name = "<init>") (hd : decode cc pc = .ok (.putfield idx, 3)) (K : Cl ci Cn Tb N ty) (hk : kd T a = ci) (k : Nat) (hkN : k < N) (hj : (fts ci)[k]? = some 0)  (hft : parseFieldDescriptor (Tb k).2.2.1 = some .int) (hfin : (Tb k).2.2.2 = true ∧ (Tb k).1 = own) (hw : Cond.fieldLink own idx (Tb k).1 (Tb k).2.1 (Tb k).2.2.1 ∈ lw_gd)
    (kk : G X B nL Z Q (pc + 3) lo st T (pI M a k x)) : G X B nL Z Q (pc) lo (.int x :: .ref a :: st) T M := by
  intro H locs ls hl hP hS h1 h2 h3 h4
  exact put_k C hd K hk k hkN (Or.inr ⟨hfin.1, hin2, hfin.2⟩) hft rfl rfl hw (cel_pI hk K.1 hj) hP hS (fun H1 locs1 hP1 hS1 => kk H1 locs1 ls hl hP1 hS1 h1 h2 h3 h4)
