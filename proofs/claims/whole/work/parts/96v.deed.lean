section
variable {x z m : Nat} {T : Sh} {M M' : Me}
/-- only the place drawn from changes -/
def ZF (z k : Nat) (M M2 : Me) : Prop := (∀ a q, ¬ (a = z ∧ q = k) → gI M2 a q = gI M a q) ∧ M2.2 = M.2
theorem ZF.pI {k : Nat} {v : Int32} (h : ZF z k M M') : ZF z k M (pI M' z k v) := ⟨fun a q n => by rw [mII, if_neg n]; exact h.1 a q n, h.2⟩
theorem ZF.rfl {k : Nat} : ZF z k M M := ⟨fun _ _ _ => Eq.refl _, Eq.refl _⟩
theorem c_nextDeed {w : Int32} (hz : kd T z = 0) (hw : gI M z 0 = w) : Ok (fX1_nextDeed T M z) (fun p => p.1 = (drw w).1 ∧ gI p.2 z 0 = (drw w).2 ∧ ZF z 0 M p.2) := by
  have f1 : ZF z 0 M (pI M z 0 (dzz w)) := ZF.rfl.pI
  have f2 : ZF z 0 M (pI (pI M z 0 (dzz w)) z 0 (dzz (dzz w))) := f1.pI
  have f3 : ZF z 0 M (pI (pI (pI M z 0 (dzz w)) z 0 (dzz (dzz w))) z 0 (dzz (dzz (dzz w)))) := f2.pI
  unfold fX1_nextDeed drw
  rw [hz, gdI, c_draw hz hw, Option.bind_some, une2, lte]
  generalize hzz (dzz w) - hzz (dzz w) / (6 : Int32) * (6 : Int32) = v
  rw [c_draw hz mII1]
  by_cases v0 : v = 0
  · rw [if_pos v0]; simp only [if_pos v0]; exact ok_i ⟨rfl, mII1, f1⟩
  by_cases v1 : v = 1
  · rw [if_neg v0, if_pos v1]; simp only [if_neg v0, if_pos v1]; exact ok_i ⟨rfl, mII1, f1⟩
  by_cases v2 : v = 2
  · rw [if_neg v0, if_neg v1, if_pos v2]; simp only [if_neg v0, if_neg v1, if_pos v2]; exact ok_i ⟨rfl, mII1, f1⟩
  by_cases v3 : v = 3
  · rw [if_neg v0, if_neg v1, if_neg v2, if_pos v3]; simp only [if_neg v0, if_neg v1, if_neg v2, if_pos v3, Option.bind_some, une2]; exact ok_i ⟨rfl, mII1, f2⟩
  by_cases v4 : v = 4
  · rw [if_neg v0, if_neg v1, if_neg v2, if_neg v3, if_pos v4]
    simp only [if_neg v0, if_neg v1, if_neg v2, if_neg v3, if_pos v4, Option.bind_some, une2, lte]
    rw [c_draw hz mII1, Option.bind_some, une2]
    exact ok_i ⟨rfl, mII1, f3⟩
  · rw [if_neg v0, if_neg v1, if_neg v2, if_neg v3, if_neg v4]
    simp only [if_neg v0, if_neg v1, if_neg v2, if_neg v3, if_neg v4, Option.bind_some, une2, lte]
    rw [c_draw hz mII1, Option.bind_some, une2]
    exact ok_i ⟨rfl, mII1, f3⟩
end
