/-! ===== the data of a new link, whole ===== -/
section DH
variable {D D' : Nat → Nat → Int32} {cap cu nn nm ng ns nl nc n set o : Nat} {fo : Int32} {cs : List Int32}
theorem DI.lnk {n' : Nat} (hDI : DI cap D nn nm ng ns nl nc) (hL : LinkD D D' cu n set nl nc (nI o) fo cs) (hn : n < nn) (hs : set < ns) (ho : o < 100) (hf : fo = 0 ∨ fo = 1) (hnl : nl < 100) (hcl : cs.length ≤ 200) (hn' : n' ≤ 1) (hw : wfC ng nn cs 0 n') : DI cu D' nn nm ng ns (nl + 1) (nc + cs.length) := by
  obtain ⟨a1, a2, a3, a4, a5, tp, a6⟩ := hDI
  obtain ⟨hF, l0, l15, l19, l22, l32, l21, l21', lcu, l24, l25, l26, l27, l29, l30, j, hI⟩ := hL
  obtain ⟨c1, c2, ⟨c3, c3', c3''⟩, c4, c5, c6, c7, c8⟩ := id a5
  have hlt := srt_lt a5.1 a5.2.2.2.2.2.1
  have e28 : D' 28 = D 28 := hF.1 28 (by decide) (by decide)
  have hsi := srt_ins (by omega) hI
  have hio := ins_ord a5 ho hI
  refine ⟨a1.cg (hF.2 3 (by decide)) (hF.1 1 (by decide) (by decide)) (hF.1 2 (by decide) (by decide)), a2.cg (hF.2 7 (by decide)) (hF.1 4 (by decide) (by decide)) (hF.1 5 (by decide) (by decide)), a3.cg (hF.2 9 (by decide)) (hF.1 6 (by decide) (by decide)) (hF.1 8 (by decide) (by decide)), a4.cg (hF.2 12 (by decide)) (hF.1 10 (by decide) (by decide)) (hF.1 11 (by decide) (by decide)) (hF.1 13 (by decide) (by decide)), ⟨by omega, l32, ⟨l22, by omega, lcu⟩, fun l hl => ?_, fun l hl => by rw [e28]; exact c5 l (by omega), fun k hk => ?_, ?_, ?_⟩, 0, by omega, l15⟩
  · by_cases e : l = nl
    · subst e
      refine ⟨⟨n, hn, by rw [l24, if_pos rfl]⟩, ⟨set, hs, by rw [l25, if_pos rfl]⟩, ⟨o, ho, by rw [l26, if_pos rfl]⟩, by rw [l27, if_pos rfl]; exact hf, .inl (by rw [e28]; exact c5 l (Nat.le_refl _)), nc, nc + cs.length, n', by rw [l29, if_pos rfl], by rw [l30, if_pos rfl], by omega, by omega, hn', ?_⟩
      rw [cdl_new (by omega) (by rw [l29, if_pos rfl]) (by rw [l30, if_pos rfl]) l21']
      exact hw
    · obtain ⟨f1, f2, f3, f4, f5, fr, to, n'', f6, f7, f8, f9, f10, f11⟩ := c4 l (by omega)
      refine ⟨by rw [l24, if_neg e]; exact f1, by rw [l25, if_neg e]; exact f2, by rw [l26, if_neg e]; exact f3, by rw [l27, if_neg e]; exact f4, by rw [e28]; exact f5, fr, to, n'', by rw [l29, if_neg e]; exact f6, by rw [l30, if_neg e]; exact f7, f8, by omega, f10, ?_⟩
      rw [cdl_eq (cd := D 21) (fr := D 29) (to := D 30) (by rw [l29, if_neg e]) (by rw [l30, if_neg e]) (fun k hk => l21 k (by rw [f7, nI_clamp (by omega)] at hk; omega))]
      exact f11
  · obtain ⟨i1, i2, i3, i4, -⟩ := hI
    by_cases e1 : k < j
    · rw [i2 k e1]
      obtain ⟨l, h1, h2⟩ := c6 k (by omega)
      exact ⟨l, by omega, h2⟩
    · by_cases e2 : k = j
      · rw [e2, i3]
        exact ⟨nl, by omega, rfl⟩
      · rw [show k = k - 1 + 1 by omega, i4 (k - 1) (by omega) (by omega)]
        obtain ⟨l, h1, h2⟩ := c6 (k - 1) (by omega)
        exact ⟨l, by omega, h2⟩
  · rw [hsi]
    have hnd := c7
    rw [← List.take_append_drop j (srt (D 31) nl)] at hnd
    obtain ⟨p1, p2, p3⟩ := List.nodup_append.mp hnd
    refine List.nodup_append.mpr ⟨p1, List.nodup_cons.mpr ⟨fun q => ?_, p2⟩, fun x hx y hy e => ?_⟩
    · have := hlt _ (List.mem_of_mem_drop q)
      omega
    · rcases List.mem_cons.mp hy with h | h
      · have := hlt _ (List.mem_of_mem_take hx)
        omega
      · exact p3 x hx y h e
  · rw [hsi]
    have hpw := c8
    rw [← List.take_append_drop j (srt (D 31) nl)] at hpw
    obtain ⟨p1, p2, p3⟩ := List.pairwise_append.mp hpw
    have e26 : ∀ l ∈ srt (D 31) nl, D' 26 l = D 26 l := fun l hl => by rw [l26, if_neg (by have := hlt l hl; omega)]
    have en : (D' 26 nl).toNatClampNeg = o := by rw [l26, if_pos rfl, nI_clamp (by omega)]
    refine List.pairwise_append.mpr ⟨p1.imp_of_mem (fun {a b} ha hb h => ?_), List.pairwise_cons.mpr ⟨fun b hb => ?_, p2.imp_of_mem (fun {a b} ha hb h => ?_)⟩, fun a ha b hb => ?_⟩
    · rw [e26 a (List.mem_of_mem_take ha), e26 b (List.mem_of_mem_take hb)]
      exact h
    · rw [en, e26 b (List.mem_of_mem_drop hb)]
      have := hio.2 b hb
      omega
    · rw [e26 a (List.mem_of_mem_drop ha), e26 b (List.mem_of_mem_drop hb)]
      exact h
    · rw [e26 a (List.mem_of_mem_take ha)]
      rcases List.mem_cons.mp hb with rfl | hb
      · rw [en]
        exact hio.1 a ha
      · rw [e26 b (List.mem_of_mem_drop hb)]
        exact p3 a ha b hb
/-- the links of a node, with the new one -/
def lnkL (D : Nat → Nat → Int32) (nl n o : Nat) : List Nat := (lnkN D nl n).filter (fun l => decide ((D 26 l).toNatClampNeg ≤ o))
def lnkR (D : Nat → Nat → Int32) (nl n o : Nat) : List Nat := (lnkN D nl n).filter (fun l => !decide ((D 26 l).toNatClampNeg ≤ o))
theorem fil_split {f : Nat → Nat} {o : Nat} : ∀ (l : List Nat), l.Pairwise (fun a b => f a ≤ f b) → l = l.filter (fun x => decide (f x ≤ o)) ++ l.filter (fun x => !decide (f x ≤ o))
  | [], _ => rfl
  | a :: l, h => by
    obtain ⟨h1, h2⟩ := List.pairwise_cons.mp h
    by_cases c : f a ≤ o
    · rw [List.filter_cons_of_pos (by rw [decide_eq_true c]), List.filter_cons_of_neg (by rw [decide_eq_true c]; decide), List.cons_append, ← fil_split l h2]
    · have all : ∀ x ∈ l, ¬ f x ≤ o := fun x hx q => c (Nat.le_trans (h1 x hx) q)
      rw [List.filter_cons_of_neg (by rw [decide_eq_false c]; decide), List.filter_cons_of_pos (by rw [decide_eq_false c]; rfl), List.filter_eq_nil_iff.mpr (fun x hx q => all x hx (of_decide_eq_true q)), List.nil_append, List.filter_eq_self.mpr (fun x hx => by rw [decide_eq_false (all x hx)]; rfl)]
theorem lnkN_split (hD : DLnk cap D nn ng ns nl nc) : lnkN D nl n = lnkL D nl n o ++ lnkR D nl n o := fil_split (f := fun l => (D 26 l).toNatClampNeg) _ (hD.2.2.2.2.2.2.2.filter _)
theorem lnkN_new (hD : DLnk cap D nn ng ns nl nc) (hL : LinkD D D' cu n set nl nc (nI o) fo cs) (hn : n < nn) (hnn : nn ≤ 60) (ho : o < 100) (hnl : nl < 100) {i : Nat} (hi : i < nn) : lnkN D' (nl + 1) i = if i = n then lnkL D nl n o ++ nl :: lnkR D nl n o else lnkN D nl i := by
  obtain ⟨hF, l0, l15, l19, l22, l32, l21, l21', lcu, l24, l25, l26, l27, l29, l30, j, hI⟩ := hL
  have hlt := srt_lt hD.1 hD.2.2.2.2.2.1
  have e28 : D' 28 = D 28 := hF.1 28 (by decide) (by decide)
  have hsi := srt_ins (by omega) hI
  have hio := ins_ord hD ho hI
  have e28n : D' 28 nl = 0 := by rw [e28]; exact hD.2.2.2.2.1 nl (Nat.le_refl _)
  have ft : ∀ ys : List Nat, (∀ l ∈ ys, l < nl) → ys.filter (fun l => decide (D' 28 l = 0 ∧ D' 24 l = nI i)) = ys.filter (fun l => decide (D 28 l = 0 ∧ D 24 l = nI i)) := fun ys hy => by
    refine List.filter_congr (fun l hl => ?_)
    rw [e28, l24, if_neg (by have := hy l hl; omega)]
  have e1 : lnkN D' (nl + 1) i = ((srt (D 31) nl).take j).filter (fun l => decide (D 28 l = 0 ∧ D 24 l = nI i)) ++ (if i = n then [nl] else []) ++ ((srt (D 31) nl).drop j).filter (fun l => decide (D 28 l = 0 ∧ D 24 l = nI i)) := by
    unfold lnkN
    rw [hsi, List.filter_append, ft _ (fun l hl => hlt l (List.mem_of_mem_take hl)), List.append_assoc]
    congr 1
    by_cases e : i = n
    · rw [if_pos e, List.filter_cons_of_pos (by rw [e28n, l24, if_pos rfl, e]; exact decide_eq_true ⟨rfl, rfl⟩), ft _ (fun l hl => hlt l (List.mem_of_mem_drop hl))]
      rfl
    · rw [if_neg e, List.filter_cons_of_neg (by
        rw [e28n, l24, if_pos rfl, decide_eq_false (fun q => e ((nI_eq (by omega) (by omega)).mp q.2).symm)]
        decide), ft _ (fun l hl => hlt l (List.mem_of_mem_drop hl))]
      rfl
  have e2 : lnkN D nl i = ((srt (D 31) nl).take j).filter (fun l => decide (D 28 l = 0 ∧ D 24 l = nI i)) ++ ((srt (D 31) nl).drop j).filter (fun l => decide (D 28 l = 0 ∧ D 24 l = nI i)) := by
    unfold lnkN
    rw [← List.filter_append, List.take_append_drop]
  rw [e1]
  by_cases e : i = n
  · rw [if_pos e, if_pos e]
    subst e
    unfold lnkL lnkR
    rw [e2, List.filter_append, List.filter_append]
    have q1 : ∀ l ∈ ((srt (D 31) nl).take j).filter (fun l => decide (D 28 l = 0 ∧ D 24 l = nI i)), (D 26 l).toNatClampNeg ≤ o := fun l hl => hio.1 l (List.mem_filter.mp hl).1
    have q2 : ∀ l ∈ ((srt (D 31) nl).drop j).filter (fun l => decide (D 28 l = 0 ∧ D 24 l = nI i)), ¬ (D 26 l).toNatClampNeg ≤ o := fun l hl => by
      have := hio.2 l (List.mem_filter.mp hl).1
      omega
    generalize ((srt (D 31) nl).take j).filter (fun l => decide (D 28 l = 0 ∧ D 24 l = nI i)) = A at q1 ⊢
    generalize ((srt (D 31) nl).drop j).filter (fun l => decide (D 28 l = 0 ∧ D 24 l = nI i)) = C at q2 ⊢
    rw [show A.filter (fun l => decide ((D 26 l).toNatClampNeg ≤ o)) = A from List.filter_eq_self.mpr (fun l hl => decide_eq_true (q1 l hl)), show C.filter (fun l => decide ((D 26 l).toNatClampNeg ≤ o)) = [] from List.filter_eq_nil_iff.mpr (fun l hl q => q2 l hl (of_decide_eq_true q)), show A.filter (fun l => !decide ((D 26 l).toNatClampNeg ≤ o)) = [] from List.filter_eq_nil_iff.mpr (fun l hl q => by rw [decide_eq_true (q1 l hl)] at q; cases q), show C.filter (fun l => !decide ((D 26 l).toNatClampNeg ≤ o)) = C from List.filter_eq_self.mpr (fun l hl => by rw [decide_eq_false (q2 l hl)]; rfl), List.append_nil, List.nil_append, List.append_assoc]
    rfl
  · rw [if_neg e, if_neg e, List.append_nil, e2]
end DH
