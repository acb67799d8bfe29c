/-! ===== the class: the moved tree ===== -/
section CY
variable {E : Es} {I : Tg → Nat → Int32} {D : Nat → Nat → Int32} {Z : Nat → Nat} {cap nn nm ng ns nl nc ax ao n up : Nat}
theorem Cst.mv {wu : List Nat} (hc : Cst E I D Z ax ao cap nn nm ng ns nl nc) (hup : up < nn) (hu : Chn (D 1) nn wu (nI up)) (hnu : n ∉ wu) : Cst (eR E (12, n, 0) 1 (some (12, up, 0))) I (ds D 1 n (nI up)) Z ax ao cap nn nm ng ns nl nc := by
  obtain ⟨hT, hDat, hC, hDI⟩ := hc
  have hn60 := hDI.1.1.2
  have r : ∀ j, j ≠ 1 → ds D 1 n (nI up) j = D j := fun j hj => ds_row hj
  obtain ⟨⟨cn, kn, hL⟩, hNo, hNn⟩ := hDat.1
  have elk : lnkN (ds D 1 n (nI up)) nl = lnkN D nl := by
    funext i
    unfold lnkN
    rw [r 31 (by decide), r 28 (by decide), r 24 (by decide)]
  refine ⟨hT.n12, ⟨⟨⟨cn, kn, hL.n12 rfl⟩, fun k hk => ?_, hNn⟩, hDat.2.1.cg (SamT.eR rfl) (SamT.eR rfl) (r 4 (by decide)) (r 5 (by decide)), hDat.2.2.1.cg (SamT.eR rfl) (by rw [r 0 (by decide)]) (r 6 (by decide)) (r 8 (by decide)), hDat.2.2.2.1.cg (SamT.eR rfl) (SamT.eR rfl) (fun _ => rfl) (r 10 (by decide)) (r 11 (by decide)) (r 13 (by decide)), hDat.2.2.2.2.1.cg (SamT.eR rfl) (SamT.eR rfl) (SamT.eR rfl) (r 24 (by decide)) (r 25 (by decide)) (r 26 (by decide)) (r 27 (by decide)) (r 28 (by decide)) (fun l _ => by rw [r 21 (by decide), r 29 (by decide), r 30 (by decide)]), hDat.2.2.2.2.2.cg (SamT.eR rfl) rfl (by rw [r 0 (by decide)]) (r 14 (by decide)) (by rw [r 0 (by decide)])⟩, hC.n12, hDI.move hu hnu⟩
  obtain ⟨q1, q2, q3, q4, q5, c, q6, q7⟩ := hNo k hk
  refine ⟨q1, q2, ?_, by rw [r 2 (by decide)]; exact q4, by rw [eR_ne (fun q => absurd q.2 (by decide))]; exact q5, c, q6, by rw [elk]; exact q7.n12 rfl⟩
  by_cases e : k = n
  · subst e
    rw [eR_eq, ds_eq, upT_nI (by omega)]
  · rw [eR_ne (fun q => e (congrArg (fun t : Tg => t.2.1) q.1)), ds_ne (fun q => e q.2)]
    exact q3
end CY
