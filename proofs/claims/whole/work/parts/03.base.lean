
/-! the state of the heap that is ours: T = (its end, slots made, kinds, lengths), M = (ints, longs, references), each by address and place -/
abbrev Sh : Type := Nat × Nat × (Nat → Nat) × (Nat → Nat)
abbrev Me : Type := (Nat → Nat → Int32) × (Nat → Nat → Int64) × (Nat → Nat → Option Nat)
abbrev Bx : Type := (Nat → ClassId) × va_G × Nat × (Nat → Nat) × (Nat → Nat)
abbrev Fx : Type := Program × Launch × Env × Room × State × MethodId × Array Value × List Frame × Method × Code
def tp (T : Sh) : Nat := T.1
def sl (T : Sh) : Nat := T.2.1
def kd (T : Sh) (a : Nat) : Nat := T.2.2.1 a
def ln (T : Sh) (a : Nat) : Nat := T.2.2.2 a
def gI (M : Me) (a k : Nat) : Int32 := M.1 a k
def gJ (M : Me) (a k : Nat) : Int64 := M.2.1 a k
def gR (M : Me) (a k : Nat) : Option Nat := M.2.2 a k
def up2 {α : Type} (f : Nat → Nat → α) (a k : Nat) (v : α) : Nat → Nat → α := fun b j => if b = a ∧ j = k then v else f b j
def pI (M : Me) (a k : Nat) (v : Int32) : Me := (up2 M.1 a k v, M.2)
def pJ (M : Me) (a k : Nat) (v : Int64) : Me := (M.1, up2 M.2.1 a k v, M.2.2)
def pR (M : Me) (a k : Nat) (v : Option Nat) : Me := (M.1, M.2.1, up2 M.2.2 a k v)
/-- a new cell: kind k, length n, z slots -/
def nT (T : Sh) (k n z : Nat) : Sh := (T.1 + 1, T.2.1 + z, va_up T.2.2.1 T.1 k, va_up T.2.2.2 T.1 n)
def nM (T : Sh) (M : Me) : Me := (va_up M.1 T.1 (fun _ => 0), va_up M.2.1 T.1 (fun _ => 0), va_up M.2.2 T.1 (fun _ => none))
def fts : Nat → List Nat
  | 0 => [0]
  | 1 => [2, 2]
  | 2 => [2, 2, 2, 2, 2, 0, 0, 0, 0, 0, 2, 2, 2]
  | 3 => [2, 0]
  | 4 => [2, 2, 2, 1, 2, 2]
  | 5 => [2, 0, 0, 0, 2, 0, 0, 0]
  | 6 => [2, 2, 2, 2, 2, 0, 0, 0, 0, 0, 0, 0, 0, 0]
  | 7 => [2, 0, 0]
  | 8 => [2, 2, 2, 0]
  | 9 => [2, 0, 0]
  | 10 => [2, 0, 2, 2, 2, 2, 2, 2, 0, 2, 2, 2, 2, 2]
  | _ => [0, 2, 2, 2, 2, 0, 0, 0, 0, 0, 0, 0, 0, 0, 0, 0, 2, 2, 0, 0, 2, 0, 0, 0, 0, 0, 0, 0, 0, 2, 0, 0, 0, 2, 2, 2, 2, 2, 2, 2, 2, 2, 2]
def fv (M : Me) (a : Nat) : Nat → Nat → Value
  | 0, k => .int (gI M a k)
  | 1, k => .long (gJ M a k)
  | _, k => va_rf (gR M a k)
def fvs (M : Me) (a : Nat) : List Nat → Nat → List Value
  | [], _ => []
  | t :: ts, k => fv M a t k :: fvs M a ts (k + 1)
def cel (cy : Nat → ClassId) (T : Sh) (M : Me) (a : Nat) : va_E :=
  if kd T a < 12 then .inr (kd T a, fvs M a (fts (kd T a)) 0)
  else if kd T a = 14 then .inl (cy (kd T a), ln T a, .inr (.inl (gJ M a)))
  else if kd T a < 16 then .inl (cy (kd T a), ln T a, .inl (gI M a))
  else .inl (cy (kd T a), ln T a, .inr (.inr (.inr (.inr (gR M a)))))
def wl (B : Bx) (T : Sh) (M : Me) : va_W := va_pl (List.range' B.2.2.1 (tp T - B.2.2.1)) (cel B.1 T M)
def PW (B : Bx) (T : Sh) (M : Me) (H : Heap) : Prop := H.size = tp T ∧ B.2.2.1 ≤ tp T ∧ (∀ a, kd T a < 19 → B.2.2.1 ≤ a ∧ a < tp T) ∧ va_P B.2.1 kCl (wl B T M) H
def tyl (B : Bx) : List (ClassId × FieldType) := [(B.1 12, .byte), (B.1 13, .int), (B.1 14, .long), (B.1 15, .boolean), (B.1 16, .object "EyeTrainer$Image"), (B.1 17, .object "EyeTrainer$Stand"), (B.1 18, .object "EyeTrainer$Tray")]
def StR (B : Bx) (U : State) : Prop := ∀ q ∈ sCon, vk_R q.1 q.2.1 q.2.2.1 (B.2.2.2.1 q.2.2.2) U
def StS (B : Bx) (U : State) (H : Heap) : Prop := vk_S 25 sLen sByt B.2.2.2.1 B.2.2.2.2 (fun q => B.2.2.1 ≤ q) U H ∧ va_Z "java/lang/String" "COMPACT_STRINGS" "Z" (.int 1) (fun q => B.2.2.1 ≤ q) U H ∧ va_Zq "jdk/internal/util/Preconditions" "SIOOBE_FORMATTER" "Ljava/util/function/BiFunction;" (fun q => B.2.2.1 ≤ q) U H
theorem StS.moved {B : Bx} {u U : State} {H : Heap} (hvm : u.vm.Alike U.vm) (h : StS B u H) : StS B U H := ⟨h.1.moved hvm, h.2.1.moved hvm, h.2.2.moved hvm⟩
theorem StS.kept {B : Bx} {U : State} {H H1 : Heap} (h : StS B U H) (hq : ∀ a : Nat, a < H.size → ¬ B.2.2.1 ≤ a → H1[a]? = H[a]?) : StS B U H1 := ⟨h.1.kept hq, h.2.1.kept hq, h.2.2.kept hq⟩
def AOk (U : State) : Prop := va_AO "EyeTrainer$Image" U ∧ va_AO "EyeTrainer$Stand" U ∧ va_AO "EyeTrainer$Tray" U
def WS (B : Bx) (T : Sh) (M : Me) (U : State) : Prop := PW B T M U.heap ∧ va_K B.2.1 kCl (tyl B) U ∧ StR B U ∧ StS B U U.heap ∧ AOk U
def rmD (d mc ms : Nat) : Room := { frames := d, cells := mc, slots := ms, locals := 40 * d }
def G (X : Fx) (B : Bx) (nL : Nat) (Z : Nat × Nat × Nat × Nat) (Q : State → Prop) (pc : Nat) (lo : List (Nat × Value)) (st : List Value) (T : Sh) (M : Me) : Prop :=
  ∀ (H : Heap) (locs : List Loc) (ls : Array Slot), lv_has ls nL lo → PW B T M H → va_S (fun q => B.2.2.1 ≤ q) X.2.2.2.2.1.heap H locs → Z.1 ≤ tp T → tp T ≤ Z.2.2.1 → Z.2.1 ≤ sl T → sl T ≤ Z.2.2.2 →
    W X.1 X.2.1 X.2.2.1 X.2.2.2.1 X.2.2.2.2.1 X.2.2.2.2.2.1 X.2.2.2.2.2.2.1 X.2.2.2.2.2.2.2.1 X.2.2.2.2.2.2.2.2.1 X.2.2.2.2.2.2.2.2.2 H locs (tp T - Z.1) (sl T - Z.2.1) Q (F0 X.2.2.2.2.2.1 pc ls st)
/-- what holds all through a method's body -/
def Cx (X : Fx) (B : Bx) (cc : ByteArray) (nL : Nat) (own : String) (d : Nat) (Z : Nat × Nat × Nat × Nat) : Prop :=
  X.1.tables.exec = Jvm.exec ∧ X.2.2.2.2.2.2.2.2.2.code = cc ∧ X.2.2.2.2.2.2.2.2.2.maxLocals = nL ∧ X.2.2.2.2.1.vm.findClass own = some X.2.2.2.2.2.1.cls ∧ (∀ w ∈ lw_gd, w.before X.2.2.2.2.2.2.1 X.2.2.2.2.1 = true) ∧ va_K B.2.1 kCl (tyl B) X.2.2.2.2.1 ∧ StR B X.2.2.2.2.1 ∧ StS B X.2.2.2.2.1 X.2.2.2.2.1.heap ∧ AOk X.2.2.2.2.1 ∧
  B.2.2.1 ≤ X.2.2.2.2.1.heap.size ∧ d ≤ X.2.2.2.1.frames ∧ 40 * d ≤ X.2.2.2.1.locals ∧ X.2.2.2.1.cells = Z.2.2.1 - Z.1 ∧ X.2.2.2.1.slots = Z.2.2.2 - Z.2.1
def Rx (X : Fx) (ret : Option FieldType) : Prop := X.2.2.2.2.2.2.2.2.1.sig.returnType = ret ∧ X.2.2.2.2.2.2.2.2.1.locks = false
/-- a contract: from T, M with these values it returns v, with T', M' -/
def Qc (B : Bx) (v : Option Value) (T' : Sh) (M' : Me) : Array Value → State → Outcome → State → Prop := fun _ st oc t => oc = .returned v ∧ WS B T' M' t ∧ va_F (fun q => B.2.2.1 ≤ q) st t
def Kt (l : Launch) (B : Bx) (y : MethodName) (cc : ByteArray) (nL : Nat) (ret : Option FieldType) (d : Nat) (av : List Value) (T : Sh) (M : Me) (v : Option Value) (T' : Sh) (M' : Me) : Prop :=
  tp T ≤ tp T' ∧ sl T ≤ sl T' ∧ Met l y (.code y cc nL ret :: lw_gd) (rmD d (tp T' - tp T) (sl T' - sl T)) (va_Pc av (WS B T M)) (Qc B v T' M') (tp T' - tp T) (sl T' - sl T) (fun q => B.2.2.1 ≤ q)
def Qf (X : Fx) (B : Bx) (Z : Nat × Nat × Nat × Nat) (v : Option Value) (T' : Sh) (M' : Me) : State → Prop := MQ X.2.2.2.2.2.2.2.1 (Qc B v T' M') X.2.2.2.2.2.2.1 X.2.2.2.2.1 (Z.2.2.1 - Z.1) (Z.2.2.2 - Z.2.1) (fun q => B.2.2.1 ≤ q)

theorem pl_at {b n a : Nat} {f : Nat → va_E} (h1 : b ≤ a) (h2 : a < b + n) : (va_pl (List.range' b n) f)[a - b]? = some (a, f a) := by
  have h : a - b < n := by omega
  have e : b + (a - b) = a := by omega
  simp [va_pl, h, e]
theorem pl_D {b n : Nat} {f : Nat → va_E} : va_D (fun q => b ≤ q) (va_pl (List.range' b n) f) := by
  refine ⟨fun i j p q hp hq e => ?_, fun k q hq => ?_⟩
  · have hi : i < n := by
      have := (List.getElem?_eq_some_iff.mp hp).1
      simpa [va_pl] using this
    have hj : j < n := by
      have := (List.getElem?_eq_some_iff.mp hq).1
      simpa [va_pl] using this
    have h1 := pl_at (f := f) (b := b) (n := n) (a := b + i) (by omega) (by omega)
    have h2 := pl_at (f := f) (b := b) (n := n) (a := b + j) (by omega) (by omega)
    rw [show b + i - b = i by omega, hp] at h1
    rw [show b + j - b = j by omega, hq] at h2
    cases h1; cases h2
    dsimp only at e
    omega
  · have hk : k < n := by
      have := (List.getElem?_eq_some_iff.mp hq).1
      simpa [va_pl] using this
    have h1 := pl_at (f := f) (b := b) (n := n) (a := b + k) (by omega) (by omega)
    rw [show b + k - b = k by omega, hq] at h1
    cases h1
    dsimp only
    omega
theorem pl_set {b n a : Nat} {f g : Nat → va_E} {e : va_E} (h1 : b ≤ a) (h2 : a < b + n) (hg : ∀ q, g q = if q = a then e else f q) : (va_pl (List.range' b n) f).set (a - b) (a, e) = va_pl (List.range' b n) g := by
  have hL : a ∈ List.range' b n := by rw [List.mem_range'_1]; omega
  have h := va_pl_set (X := []) (e := e) (k := a - b) (L := List.range' b n) (f := f) (A := fun q => b ≤ q) (a := a) (by simpa using pl_D) hL (by simpa using pl_at h1 h2)
  simp only [List.nil_append] at h
  rw [h]
  congr 1
  funext q
  rw [hg q]
  rfl
theorem PW.at {B : Bx} {T : Sh} {M : Me} {H : Heap} (h : PW B T M H) {a : Nat} (hk : kd T a < 19) : (wl B T M)[a - B.2.2.1]? = some (a, cel B.1 T M a) := by
  obtain ⟨-, h2, h3, -⟩ := h
  have := h3 a hk
  exact pl_at this.1 (by omega)
theorem cel_o {cy : Nat → ClassId} {T : Sh} {M : Me} {a k : Nat} (h : kd T a = k) (hk : k < 12) : cel cy T M a = .inr (k, fvs M a (fts k) 0) := by
  unfold cel; rw [h, if_pos hk]
theorem cel_i {cy : Nat → ClassId} {T : Sh} {M : Me} {a k : Nat} (h : kd T a = k) (hk : k = 12 ∨ k = 13 ∨ k = 15) : cel cy T M a = .inl (cy k, ln T a, .inl (gI M a)) := by
  unfold cel; rw [h, if_neg (by omega), if_neg (by omega), if_pos (by omega)]
theorem cel_j {cy : Nat → ClassId} {T : Sh} {M : Me} {a : Nat} (h : kd T a = 14) : cel cy T M a = .inl (cy 14, ln T a, .inr (.inl (gJ M a))) := by
  unfold cel; rw [h]; rfl
theorem cel_r {cy : Nat → ClassId} {T : Sh} {M : Me} {a k : Nat} (h : kd T a = k) (hk : 16 ≤ k) : cel cy T M a = .inl (cy k, ln T a, .inr (.inr (.inr (.inr (gR M a))))) := by
  unfold cel; rw [h, if_neg (by omega), if_neg (by omega), if_neg (by omega)]
theorem up2_ne {α : Type} {f : Nat → Nat → α} {a b k : Nat} {v : α} (h : b ≠ a) : up2 f a k v b = f b := by
  funext j; simp [up2, h]
theorem up2_eq {α : Type} {f : Nat → Nat → α} {a k : Nat} {v : α} : up2 f a k v a = fun j => if j = k then v else f a j := by
  funext j; simp [up2]
theorem fvs_len (M : Me) (a : Nat) : ∀ (ts : List Nat) (k : Nat), (fvs M a ts k).length = ts.length := by
  intro ts
  induction ts with
  | nil => intro k; rfl
  | cons t ts ih => intro k; simp [fvs, ih]
theorem fvs_get (M : Me) (a : Nat) : ∀ (ts : List Nat) (k j : Nat), (fvs M a ts k)[j]? = ts[j]?.map (fun t => fv M a t (k + j)) := by
  intro ts
  induction ts with
  | nil => intro k j; simp [fvs]
  | cons t ts ih =>
    intro k j
    cases j with
    | zero => simp [fvs]
    | succ j => simp [fvs, ih, Nat.add_assoc, Nat.add_comm 1]
theorem fvs_ne {M M' : Me} {a : Nat} (h1 : M'.1 a = M.1 a) (h2 : M'.2.1 a = M.2.1 a) (h3 : M'.2.2 a = M.2.2 a) : ∀ (ts : List Nat) (k : Nat), fvs M' a ts k = fvs M a ts k := by
  intro ts
  induction ts with
  | nil => intro k; rfl
  | cons t ts ih =>
    intro k
    simp only [fvs, ih]
    congr 1
    unfold fv gI gJ gR
    rw [h1, h2, h3]
theorem cel_ne {cy : Nat → ClassId} {T : Sh} {M M' : Me} {a : Nat} (h1 : M'.1 a = M.1 a) (h2 : M'.2.1 a = M.2.1 a) (h3 : M'.2.2 a = M.2.2 a) : cel cy T M' a = cel cy T M a := by
  have e1 : gI M' a = gI M a := h1
  have e2 : gJ M' a = gJ M a := h2
  have e3 : gR M' a = gR M a := h3
  unfold cel
  rw [fvs_ne h1 h2 h3, e1, e2, e3]
/-- writing a field: the list of values -/
theorem fvs_set {M M' : Me} {a j : Nat} {v : Value} (ts : List Nat) (hj : j < ts.length) (h : ∀ (i t : Nat), ts[i]? = some t → fv M' a t i = if i = j then v else fv M a t i) : fvs M' a ts 0 = (fvs M a ts 0).set j v := by
  apply List.ext_getElem?
  intro i
  rw [fvs_get, List.getElem?_set, fvs_len, fvs_get]
  by_cases hi : i < ts.length
  · obtain ⟨t, ht⟩ : ∃ t, ts[i]? = some t := ⟨_, List.getElem?_eq_getElem hi⟩
    rw [ht]
    have := h i t ht
    simp only [Option.map_some, Nat.zero_add]
    rw [this]
    by_cases hij : i = j
    · subst hij; simp [hi]
    · rw [if_neg hij, if_neg (fun q => hij q.symm)]
  · rw [List.getElem?_eq_none (by omega)]
    by_cases hij : j = i
    · omega
    · rw [if_neg hij]; rfl
