/-! ===== the class: small changes ===== -/
section CS
variable {E E' : Es} {I I' : Tg → Nat → Int32} {D D' : Nat → Nat → Int32} {Z : Nat → Nat} {cap nn nm ng ns nl nc ax ao : Nat}
theorem DTree.cg (h : DTree D nn) (d3 : D' 0 3 = D 0 3) (d1 : D' 1 = D 1) (d2 : D' 2 = D 2) : DTree D' nn := by
  unfold DTree at h ⊢
  rw [d3, d1, d2]
  exact h
theorem DMach.cg (h : DMach D nn nm) (d7 : D' 0 7 = D 0 7) (d4 : D' 4 = D 4) (d5 : D' 5 = D 5) : DMach D' nn nm := by
  unfold DMach at h ⊢
  rw [d7, d4, d5]
  exact h
theorem DGrp.cg (h : DGrp D nm ng) (d9 : D' 0 9 = D 0 9) (d6 : D' 6 = D 6) (d8 : D' 8 = D 8) : DGrp D' nm ng := by
  unfold DGrp at h ⊢
  rw [d9, d6, d8]
  exact h
theorem DSet.cg (h : DSet D ns) (d12 : D' 0 12 = D 0 12) (d10 : D' 10 = D 10) (d11 : D' 11 = D 11) (d13 : D' 13 = D 13) : DSet D' ns := by
  unfold DSet at h ⊢
  rw [d12, d10, d11, d13]
  exact h
theorem DLnk.cg (h : DLnk cap D nn ng ns nl nc) (d32 : D' 0 32 = D 0 32) (d22 : D' 0 22 = D 0 22) (hr : ∀ j, (j = 21 ∨ 24 ≤ j ∧ j ≤ 31) → D' j = D j) : DLnk cap D' nn ng ns nl nc := by
  unfold DLnk LnkOk at h ⊢
  rw [d32, d22, hr 21 (by omega), hr 24 (by omega), hr 25 (by omega), hr 26 (by omega), hr 27 (by omega), hr 28 (by omega), hr 29 (by omega), hr 30 (by omega), hr 31 (by omega)]
  exact h
theorem DTap.cg {tp : Nat} (h : DTap D tp) (d15 : D' 0 15 = D 0 15) : DTap D' tp := by
  unfold DTap at h ⊢
  rw [d15]
  exact h
/-- only a row and the sign of faults have changed -/
def One (j : Nat) (D D' : Nat → Nat → Int32) : Prop := (∀ i, i ≠ 0 → i ≠ j → D' i = D i) ∧ (∀ k, k ≠ 0 → D' 0 k = D 0 k)
theorem One.ds {j k : Nat} {v : Int32} (hj : Nat.beq j 0 = false) : One j D (ds (ds D 0 0 0) j k v) := by
  have hj0 : j ≠ 0 := fun e => by subst e; cases hj
  exact ⟨fun i h0 hi => by rw [ds_row hi, ds_row h0], fun k hk => by rw [ds_ne (fun q => hj0 q.1.symm), ds_ne (fun q => hk q.2)]⟩
theorem One.lk {j : Nat} (h : One j D D') (h24 : j ≠ 24) (h28 : j ≠ 28) (h31 : j ≠ 31) : lnkN D' nl = lnkN D nl := by
  funext i
  unfold lnkN
  rw [h.1 31 (by omega) (by omega), h.1 28 (by omega) (by omega), h.1 24 (by omega) (by omega)]
end CS
