section
variable {x z m : Nat} {T : Sh} {M M' : Me}
/-- only the place drawn from changes -/
def ZF (z k : Nat) (M M2 : Me) : Prop := (∀ a q, ¬ (a = z ∧ q = k) → gI M2 a q = gI M a q) ∧ M2.2 = M.2
theorem ZF.pI {k : Nat} {v : Int32} (h : ZF z k M M') : ZF z k M (pI M' z k v) := ⟨fun a q n => by rw [mII, if_neg n]; exact h.1 a q n, h.2⟩
theorem ZF.rfl {k : Nat} : ZF z k M M := ⟨fun _ _ _ => Eq.refl _, Eq.refl _⟩
theorem c_nextDeed {w : Int32} (hz : kd T z = 0) (hw : gI M z 0 = w) : Ok (fX1_nextDeed T M z) (fun p => p.1 = (drw w).1 ∧ gI p.2 z 0 = (drw w).2 ∧ ZF z 0 M p.2) := by
  have f1 : ZF z 0 M (pI M z 0 (dzz w)) := ZF.rfl.pI
  have f2 : ZF z 0 M (pI (pI M z 0 (dzz w)) z 0 (dzz (dzz w))) := f1.pI
  have f3 : ZF z 0 M (pI (pI (pI M z 0 (dzz w)) z 0 (dzz (dzz w))) z 0 (dzz (dzz (dzz w)))) := f2.pI
  unfold fX1_nextDeed drw
  rw [hz, gdI, c_draw hz hw, Option.bind_some, une2, lte]
  generalize hzz (dzz w) - hzz (dzz w) / (6 : Int32) * (6 : Int32) = v
  rw [c_draw hz mII1]
  by_cases v0 : v = 0
  · rw [if_pos v0]; simp only [if_pos v0]; exact ok_i ⟨rfl, mII1, f1⟩
  by_cases v1 : v = 1
  · rw [if_neg v0, if_pos v1]; simp only [if_neg v0, if_pos v1]; exact ok_i ⟨rfl, mII1, f1⟩
  by_cases v2 : v = 2
  · rw [if_neg v0, if_neg v1, if_pos v2]; simp only [if_neg v0, if_neg v1, if_pos v2]; exact ok_i ⟨rfl, mII1, f1⟩
  by_cases v3 : v = 3
  · rw [if_neg v0, if_neg v1, if_neg v2, if_pos v3]; simp only [if_neg v0, if_neg v1, if_neg v2, if_pos v3, Option.bind_some, une2]; exact ok_i ⟨rfl, mII1, f2⟩
  by_cases v4 : v = 4
  · rw [if_neg v0, if_neg v1, if_neg v2, if_neg v3, if_pos v4]
    simp only [if_neg v0, if_neg v1, if_neg v2, if_neg v3, if_pos v4, Option.bind_some, une2, lte]
    rw [c_draw hz mII1, Option.bind_some, une2]
    exact ok_i ⟨rfl, mII1, f3⟩
  · rw [if_neg v0, if_neg v1, if_neg v2, if_neg v3, if_neg v4]
    simp only [if_neg v0, if_neg v1, if_neg v2, if_neg v3, if_neg v4, Option.bind_some, une2, lte]
    rw [c_draw hz mII1, Option.bind_some, une2]
    exact ok_i ⟨rfl, mII1, f3⟩
theorem r_drawn {w : Int32} (hm : kd T m = 11) (hw : gI M m 32 = w) : Ok (fX12_drawn T M m) (fun p => p.1 = (drw w).1 ∧ gI p.2 m 32 = (drw w).2 ∧ ZF m 32 M p.2) := by
  have f1 : ZF m 32 M (pI M m 32 (dzz w)) := ZF.rfl.pI
  have f2 : ZF m 32 M (pI (pI M m 32 (dzz w)) m 32 (dzz (dzz w))) := f1.pI
  have f3 : ZF m 32 M (pI (pI (pI M m 32 (dzz w)) m 32 (dzz (dzz w))) m 32 (dzz (dzz (dzz w)))) := f2.pI
  obtain ⟨h, hb, eh⟩ := hzz_b (dzz w)
  have ev : hzz (dzz w) - hzz (dzz w) / (6 : Int32) * (6 : Int32) = nI (h % 6) := by rw [eh, i_6, c_rem (by omega) (by omega) (by omega)]
  have h6 : h % 6 < 6 := Nat.mod_lt _ (by omega)
  unfold fX12_drawn drw
  rw [hm, gdI, r_draw hm hw (by decide), Option.bind_some, une2, ev]
  generalize h % 6 = v at h6
  have D5 := r_draw (n := 5) hm (mII1 (M := M) (a := m) (k := 32) (v := dzz w)) (by decide)
  have D6 := r_draw (n := 6) hm (mII1 (M := M) (a := m) (k := 32) (v := dzz w)) (by decide)
  have D3 := r_draw (n := 3) hm (mII1 (M := pI M m 32 (dzz w)) (a := m) (k := 32) (v := dzz (dzz w))) (by decide)
  have D384 := r_draw (n := 384) hm (mII1 (M := pI M m 32 (dzz w)) (a := m) (k := 32) (v := dzz (dzz w))) (by decide)
  rcases (by omega : v = 0 ∨ v = 1 ∨ v = 2 ∨ v = 3 ∨ v = 4 ∨ v = 5) with rfl | rfl | rfl | rfl | rfl | rfl
  · rw [if_neg (by decide), if_pos (by decide)]; exact ok_i ⟨rfl, mII1, f1⟩
  · rw [if_neg (by decide), if_neg (by decide)]; exact ok_i ⟨rfl, mII1, f1⟩
  · rw [if_neg (by decide), if_neg (by decide)]; exact ok_i ⟨rfl, mII1, f1⟩
  · rw [if_pos (by decide), if_pos (by decide), D5, Option.bind_some, une2]; exact ok_i ⟨rfl, mII1, f2⟩
  · rw [if_pos (by decide), if_neg (by decide), D6, Option.bind_some, une2, if_pos (by decide), D3, Option.bind_some, une2]; exact ok_i ⟨rfl, mII1, f3⟩
  · rw [if_pos (by decide), if_neg (by decide), D6, Option.bind_some, une2, if_neg (by decide), D384, Option.bind_some, une2]; exact ok_i ⟨rfl, mII1, f3⟩
end
