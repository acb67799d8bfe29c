/-! ===== the class: the end of a link ===== -/
/-- what a call costs, and what it leaves of the model -/
def Nx (E : Es) (I : Tg → Nat → Int32) (E' : Es) (I' : Tg → Nat → Int32) : Prop := eMc E' + pot E ≤ eMc E + 1000 + pot E' ∧ eMs E' + 4 * pot E ≤ eMs E + 10000 + 4 * pot E' ∧ eCu E' = eCu E ∧ SamT 1 E I E' I'
/-- all but some cells are as they were -/
def Dif (p : Tg → Bool) (E : Es) (I : Tg → Nat → Int32) (E' : Es) (I' : Tg → Nat → Int32) : Prop := ∀ t : Tg, p t = false → eAd E' t = eAd E t ∧ eKd E' t = eKd E t ∧ eLn E' t = eLn E t ∧ (∀ k, eRf E' t k = eRf E t k) ∧ (∀ k, eLg E' t k = eLg E t k) ∧ (∀ k, I' t k = I t k)
section DB
variable {p : Tg → Bool} {E E' E'' : Es} {I I' I'' : Tg → Nat → Int32} {D : Nat → Nat → Int32} {Z : Nat → Nat} {cap nn nm ng ns nl nc ax ao : Nat}
theorem Dif.rf : Dif p E I E I := fun _ _ => ⟨rfl, rfl, rfl, fun _ => rfl, fun _ => rfl, fun _ => rfl⟩
theorem Dif.tr (h : Dif p E I E' I') (h2 : Dif p E' I' E'' I'') : Dif p E I E'' I'' := fun t ht => by
  obtain ⟨a1, a2, a3, a4, a5, a6⟩ := h t ht
  obtain ⟨b1, b2, b3, b4, b5, b6⟩ := h2 t ht
  exact ⟨b1.trans a1, b2.trans a2, b3.trans a3, fun k => (b4 k).trans (a4 k), fun k => (b5 k).trans (a5 k), fun k => (b6 k).trans (a6 k)⟩
theorem Dif.ne {t u : Tg} (h : p t = true) (hu : p u = false) : u ≠ t := fun e => by rw [e, h] at hu; cases hu
theorem Dif.us {t : Tg} {k : Nat} {v : Int32} (h : p t = true) : Dif p E I E (us I t k v) := fun u hu => ⟨rfl, rfl, rfl, fun _ => rfl, fun _ => rfl, fun j => us_ne (fun q => Dif.ne h hu q.1)⟩
theorem Dif.eR {t : Tg} {k : Nat} {v : Option Tg} (h : p t = true) : Dif p E I (eR E t k v) I := fun u hu => ⟨rfl, rfl, rfl, fun j => eR_ne (fun q => Dif.ne h hu q.1), fun _ => rfl, fun _ => rfl⟩
theorem Dif.nw {t : Tg} {kd ln sl : Nat} {f : Nat → Int32} (h : p t = true) : Dif p E I (eNew E t kd ln sl) (uI I t f) := fun u hu => by
  have hn : u ≠ t := Dif.ne h hu
  exact ⟨if_neg hn, if_neg hn, if_neg hn, fun _ => if_neg hn, fun _ => if_neg hn, fun _ => if_neg hn⟩
theorem Dif.ag {a b : Nat} (h : Ag a b E I E' I') (hp : ∀ c, p (a, b, c) = true) : Dif p E I E' I' := fun t ht => h t (fun q => by
  obtain ⟨t1, t2, t3⟩ := t
  obtain ⟨q1, q2⟩ := q
  simp only at q1 q2
  subst q1 q2
  rw [hp t3] at ht
  cases ht)
theorem Dif.sam {a : Nat} (h : Dif p E I E' I') (hp : ∀ b c, p (a, b, c) = false) : SamT a E I E' I' := fun b c => h (a, b, c) (hp b c)
theorem SamT.agO {a b d : Nat} (h : Ag a b E I E' I') (hd : Nat.beq d a = false) : SamT d E I E' I' := fun x c => h (d, x, c) (fun q => by
  have e : d = a := q.1
  subst e
  exact absurd (Nat.beq_refl d) (by show ¬ Nat.beq d d = true; rw [hd]; decide))
theorem Nx.rf : Nx E I E I := ⟨by omega, by omega, rfl, SamT.rf⟩
theorem c_rmv {Q : Unit → Gh → Prop} {n c an at' : Nat} {t : Tg} {xs ys zs : List Tg} (hL : Lst E I 13 n c xs) (han : eAd E (12, n, 0) = an) (hn : eKd E (12, n, 0) = 109) (hr : eRf E (12, n, 0) 3 = some (13, n, 0)) (ht : eAd E t = at') (hys : xs = ys ++ t :: zs) (hny : t ∉ ys) (hle : xs.length ≤ 300) (hcl : ∀ t ∈ xs, 100 ≤ eKd E t) (kk : ∀ E' I', Lst E' I' 13 n c (ys ++ zs) → Ag 13 n E I E' I' → Mk E E' c c → eAd E' = eAd E → Q () (E', D, I')) : ∀ (d j fu : Nat), d + j = ys.length → d < fu → Wp (f_X6_remove_2 (some an) (some at') fu (nI j)) (E, D, I) Q := by
  intro d
  have hxl : xs.length = ys.length + (zs.length + 1) := by rw [hys, List.length_append, List.length_cons]
  induction d with
  | zero =>
    intro j fu hj hf
    obtain ⟨fu, rfl⟩ : ∃ k, fu = k + 1 := ⟨fu - 1, by omega⟩
    rw [f_X6_remove_2]
    refine wc_R han hn hr rfl ?_
    refine wc_call rfl hL.1 (l_size hL rfl rfl ?_)
    refine wp_neg (fun e => by have := (nI_leI (by omega) (by omega)).mp e; omega) ?_
    refine wc_R han hn hr rfl ?_
    refine wc_call rfl hL.1 (l_get hL rfl rfl (t := t) (by rw [hys, show j = ys.length by omega]; rw [List.getElem?_append_right (Nat.le_refl _), Nat.sub_self]; rfl) ?_)
    refine wp_pos (by rw [ht]) ?_
    refine wc_R han hn hr rfl ?_
    rw [show j = ys.length by omega]
    refine wc_call rfl hL.1 (l_rem hL rfl rfl hys hcl (fun E' I' r h1 h2 h3 h4 => wp_mp (kk E' I' h1 h2 h3 h4)))
  | succ d ih =>
    intro j fu hj hf
    obtain ⟨fu, rfl⟩ : ∃ k, fu = k + 1 := ⟨fu - 1, by omega⟩
    have hjy : j < ys.length := by omega
    have hg : xs[j]? = some ys[j] := by rw [hys, List.getElem?_append_left hjy]; exact List.getElem?_eq_getElem hjy
    have hne : ys[j] ≠ t := fun e => hny (e ▸ List.getElem_mem hjy)
    rw [f_X6_remove_2]
    refine wc_R han hn hr rfl ?_
    refine wc_call rfl hL.1 (l_size hL rfl rfl ?_)
    refine wp_neg (fun e => by have := (nI_leI (by omega) (by omega)).mp e; omega) ?_
    refine wc_R han hn hr rfl ?_
    refine wc_call rfl hL.1 (l_get hL rfl rfl hg ?_)
    refine wp_inj (fun hi _ _ => ?_)
    refine wp_neg (fun e => hne (hi _ _ ?_ ?_ ?_)) ?_
    · have := hcl _ (List.mem_of_getElem? hg)
      show eKd E ys[j] ≠ 0
      omega
    · have := hcl t (by rw [hys]; exact List.mem_append_right _ (List.mem_cons_self ..))
      show eKd E t ≠ 0
      omega
    · rw [← ht] at e
      exact Option.some.inj e
    rw [nI_1]
    exact ih (j + 1) fu (by omega) (by omega)
theorem lnkN_end {l i : Nat} : lnkN (ds (ds D 0 0 0) 28 l 1) nl i = (lnkN D nl i).filter (fun k => decide (k ≠ l)) := by
  have h1 : One 28 D (ds (ds D 0 0 0) 28 l 1) := One.ds rfl
  unfold lnkN
  rw [h1.1 31 (by decide) (by decide), h1.1 24 (by decide) (by decide), List.filter_filter]
  congr 1
  funext k
  by_cases e : k = l
  · subst e
    rw [ds_eq, decide_eq_false (fun q => absurd q.1 (by decide)), decide_eq_false (fun q => q rfl), Bool.false_and]
  · rw [ds_ne (fun q => e q.2), ds_ne (fun q => absurd q.1 (by decide)), decide_eq_true e, Bool.true_and]
theorem fil_ne {l : Nat} {xs : List Nat} (h : l ∉ xs) : xs.filter (fun k => decide (k ≠ l)) = xs := List.filter_eq_self.mpr (fun k hk => decide_eq_true (fun e => h (e ▸ hk)))
theorem lnkN_iff {l i : Nat} : l ∈ lnkN D nl i ↔ l ∈ srt (D 31) nl ∧ D 28 l = 0 ∧ D 24 l = nI i := by
  unfold lnkN
  rw [List.mem_filter, decide_eq_true_iff]
theorem srt_len : (srt (D 31) nl).length = nl := by
  unfold srt
  rw [List.length_map, List.length_range']
theorem srt_all (h : DLnk cap D nn ng ns nl nc) {l : Nat} (hl : l < nl) : l ∈ srt (D 31) nl := by
  refine Classical.byContradiction (fun hn => ?_)
  have h1 : (l :: srt (D 31) nl).Nodup := List.nodup_cons.mpr ⟨hn, h.2.2.2.2.2.2.1⟩
  have h2 := nd_len nl _ h1 (fun x hx => by
    rcases List.mem_cons.mp hx with e | e
    · omega
    · exact srt_lt h.1 h.2.2.2.2.2.1 x e)
  rw [List.length_cons, srt_len] at h2
  omega
theorem lnkN_le {i : Nat} : (lnkN D nl i).length ≤ nl := by
  have := List.length_filter_le (fun l => decide (D 28 l = 0 ∧ D 24 l = nI i)) (srt (D 31) nl)
  rw [srt_len] at this
  exact this
theorem DI.end {l : Nat} (hDI : DI cap D nn nm ng ns nl nc) (hl : l < nl) : DI cap (ds (ds D 0 0 0) 28 l 1) nn nm ng ns nl nc := by
  have h1 : One 28 D (ds (ds D 0 0 0) 28 l 1) := One.ds rfl
  have r : ∀ j, j ≠ 0 → j ≠ 28 → ds (ds D 0 0 0) 28 l 1 j = D j := h1.1
  have d2 : ∀ k, ds (ds D 0 0 0) 28 l 1 28 k = if k = l then 1 else D 28 k := fun k => by
    by_cases e : k = l
    · subst e; rw [ds_eq, if_pos rfl]
    · rw [ds_ne (fun q => e q.2), ds_ne (fun q => absurd q.1 (by decide)), if_neg e]
  obtain ⟨a1, a2, a3, a4, a5, tp, a6⟩ := hDI
  refine ⟨a1.cg (h1.2 3 (by decide)) (r 1 (by decide) (by decide)) (r 2 (by decide) (by decide)), a2.cg (h1.2 7 (by decide)) (r 4 (by decide) (by decide)) (r 5 (by decide) (by decide)), a3.cg (h1.2 9 (by decide)) (r 6 (by decide) (by decide)) (r 8 (by decide) (by decide)), a4.cg (h1.2 12 (by decide)) (r 10 (by decide) (by decide)) (r 11 (by decide) (by decide)) (r 13 (by decide) (by decide)), ?_, tp, a6.cg (h1.2 15 (by decide))⟩
  obtain ⟨c1, c2, c3, c4, c5, c6, c7, c8⟩ := a5
  refine ⟨c1, by rw [h1.2 32 (by decide)]; exact c2, by rw [h1.2 22 (by decide)]; exact c3, fun k hk => ?_, fun k hk => by rw [d2, if_neg (by omega)]; exact c5 k hk, by rw [r 31 (by decide) (by decide)]; exact c6, by rw [r 31 (by decide) (by decide)]; exact c7, by rw [r 31 (by decide) (by decide), r 26 (by decide) (by decide)]; exact c8⟩
  have q := c4 k hk
  unfold LnkOk at q ⊢
  rw [r 24 (by decide) (by decide), r 25 (by decide) (by decide), r 26 (by decide) (by decide), r 27 (by decide) (by decide), r 21 (by decide) (by decide), r 29 (by decide) (by decide), r 30 (by decide) (by decide), d2]
  refine ⟨q.1, q.2.1, q.2.2.1, q.2.2.2.1, ?_, q.2.2.2.2.2⟩
  split
  · exact .inr rfl
  · exact q.2.2.2.2.1
theorem c_end {P : (Int32 ⊕ String) → Gh → Prop} {x : Int32} (hc : Cst E I D Z ax ao cap nn nm ng ns nl nc) (k1 : (x < 0 ∨ ¬ x < nI nl) → P (.inr eI) (eXc E 1 6, D, I)) (k3 : ∀ l, l < nl → x = nI l → ∀ E' I', Nx E I E' I' → Cst E' I' (ds (ds D 0 0 0) 28 l 1) Z ax ao cap nn nm ng ns nl nc → P (.inl (b2i (decide (D 28 l = 0)))) (E', D, I')) : Wp (f_X11_end (some ax) x) (E, D, I) P := by
  obtain ⟨hT, hDat, hC, hDI⟩ := id hc
  obtain ⟨⟨-, hax, -⟩, t0, t1, t2, t3, t4, t5, -⟩ := id hT.1
  obtain ⟨⟨cl, kl, hLl⟩, hLn, hLx⟩ := hDat.2.2.2.2.1
  obtain ⟨⟨cn, kn, hLN⟩, hNo, hNx⟩ := hDat.1
  have hDL := hDI.2.2.2.2.1
  have h100 := hDL.1
  unfold f_X11_end
  refine wc_R hax t0 t5 rfl ?_
  refine wc_call rfl hLl.1 (l_size hLl rfl rfl ?_)
  rw [List.length_map, List.length_range]
  refine c_need (by omega) k1 (fun l hl e => ?_)
  subst e
  have k3 := k3 l hl rfl
  have ok := hDL.2.2.2.1 l hl
  obtain ⟨n, hn, e24⟩ := ok.1
  obtain ⟨q1, q2, q3, q4, q5, q6, q7, q8, q9, q10, q11, q12, q13⟩ := id (hLn l hl)
  refine wc_R hax t0 t5 rfl ?_
  refine wc_call rfl hLl.1 (l_get hLl rfl rfl (t := (16, l, 0)) (by rw [List.getElem?_map, List.getElem?_range hl]; rfl) ?_)
  refine wc_ck rfl q1 ?_
  refine wc_I rfl rfl q1 rfl ?_
  rw [q7]
  have h1 : One 28 D (ds (ds D 0 0 0) 28 l 1) := One.ds rfl
  have r : ∀ j, j ≠ 0 → j ≠ 28 → ds (ds D 0 0 0) 28 l 1 j = D j := h1.1
  have d2 : ∀ k, ds (ds D 0 0 0) 28 l 1 28 k = if k = l then 1 else D 28 k := fun k => by
    by_cases e : k = l
    · subst e; rw [ds_eq, if_pos rfl]
    · rw [ds_ne (fun q => e q.2), ds_ne (fun q => absurd q.1 (by decide)), if_neg e]
  rcases ok.2.2.2.2.1 with e28 | e28
  · rw [e28] at k3 ⊢
    rw [decide_eq_true rfl] at k3
    refine wp_pos rfl ?_
    refine wc_Z rfl rfl q1 rfl rfl (.inr rfl) ?_
    rw [e24, nI_clamp (by have := hDI.1.1.2; omega)] at q3
    refine wc_R rfl q1 q3 rfl ?_
    obtain ⟨z1, z2, z3, z4, z5, cN, z6, z7⟩ := id (hNo n hn)
    refine wc_call rfl z1 ?_
    unfold f_X6_remove
    have hin : l ∈ lnkN D nl n := lnkN_iff.mpr ⟨srt_all hDL hl, e28, e24⟩
    obtain ⟨ys, zs, hyz⟩ := List.append_of_mem hin
    have hnd : (lnkN D nl n).Nodup := hDL.2.2.2.2.2.2.1.filter _
    have hly : l ∉ ys := fun q => by
      rw [hyz] at hnd
      exact (List.nodup_append.mp hnd).2.2 l q l (List.mem_cons_self ..) rfl
    have hlz : l ∉ zs := fun q => by
      rw [hyz] at hnd
      exact (List.nodup_cons.mp (List.nodup_append.mp hnd).2.1).1 q
    have hnew : lnkN (ds (ds D 0 0 0) 28 l 1) nl n = ys ++ zs := by
      rw [lnkN_end, hyz, List.filter_append, List.filter_cons_of_neg (by simp), fil_ne hly, fil_ne hlz]
    have hold : ∀ i, i ≠ n → i < nn → lnkN (ds (ds D 0 0 0) 28 l 1) nl i = lnkN D nl i := fun i hi hin => by
      rw [lnkN_end, fil_ne (fun q => hi ?_)]
      have e := (lnkN_iff.mp q).2.2
      rw [e24] at e
      exact ((nI_eq (by have := hDI.1.1.2; omega) (by have := hDI.1.1.2; omega)).mp e).symm
    have hcl : ∀ t ∈ (lnkN D nl n).map (fun l => ((16, l, 0) : Tg)), 100 ≤ eKd E t := fun t ht => by
      obtain ⟨k, hk, rfl⟩ := List.mem_map.mp ht
      rw [(hLn k (srt_lt h100 hDL.2.2.2.2.2.1 k (lnkN_iff.mp hk).1)).1]
      decide
    refine c_rmv (I := us I (16, l, 0) 6 1) (t := (16, l, 0)) (ys := ys.map (fun l => ((16, l, 0) : Tg))) (zs := zs.map (fun l => ((16, l, 0) : Tg))) ((SamT.us rfl).lst z7) rfl z1 z5 rfl (by rw [hyz, List.map_append, List.map_cons]) (fun q => ?_) (by rw [List.length_map]; have := lnkN_le (D := D) (nl := nl) (i := n); omega) hcl ?_ ys.length 0 fuL (by rw [List.length_map]; omega) ?_
    · obtain ⟨k, hk, e⟩ := List.mem_map.mp q
      have e2 : k = l := congrArg (fun t : Tg => t.2.1) e
      exact hly (e2 ▸ hk)
    · intro E' I' g1 g2 g3 g4
      refine wp_rzX (.inr rfl) (k3 E' I' ?_ ?_)
      · have hp : pot E' = pot E := pot_cg (SamT.agO g2 rfl) (SamT.agO g2 rfl)
        exact ⟨by have := g3.1; omega, by have := g3.2.1; omega, g3.2.2.1, (SamT.us rfl).tr (SamT.agO g2 rfl)⟩
      have sa : ∀ a, Nat.beq a 13 = false → Nat.beq a 16 = false → SamT a E I E' I' := fun a h13 h16 => (SamT.us h16).tr (SamT.agO g2 h13)
      rw [← List.map_append, ← hnew] at g1
      refine ⟨hT.cg (sa 0 rfl rfl) (sa 2 rfl rfl) (sa 4 rfl rfl) (sa 5 rfl rfl) (sa 6 rfl rfl) (sa 7 rfl rfl) (sa 10 rfl rfl) (sa 11 rfl rfl) (sa 19 rfl rfl), ⟨⟨⟨cn, kn, (sa 3 rfl rfl).lst hLN⟩, fun i hi => ?_, fun i hi => ⟨by rw [(sa 12 rfl rfl i 0).2.1]; exact (hNx i hi).1, fun c => ?_⟩⟩, hDat.2.1.cg (sa 20 rfl rfl) (sa 14 rfl rfl) (r 4 (by decide) (by decide)) (r 5 (by decide) (by decide)), hDat.2.2.1.cg (sa 4 rfl rfl) (h1.2 9 (by decide)) (r 6 (by decide) (by decide)) (r 8 (by decide) (by decide)), hDat.2.2.2.1.cg (sa 21 rfl rfl) (sa 15 rfl rfl) (fun k => (sa 2 rfl rfl 1 0).2.2.2.2.2 k) (r 10 (by decide) (by decide)) (r 11 (by decide) (by decide)) (r 13 (by decide) (by decide)), ⟨⟨cl, kl, (sa 22 rfl rfl).lst hLl⟩, fun i hi => ?_, fun i hi => ⟨by rw [((SamT.agO g2 rfl : SamT 16 _ _ _ _) i 0).2.1]; exact (hLx i hi).1, fun c => by rw [(sa 17 rfl rfl i c).2.1]; exact (hLx i hi).2 c⟩⟩, hDat.2.2.2.2.2.cg (sa 5 rfl rfl) ((sa 2 rfl rfl 0 0).2.2.2.2.2 8) (h1.2 15 (by decide)) (r 14 (by decide) (by decide)) (h1.2 19 (by decide))⟩, hC.cg (sa 8 rfl rfl) (sa 9 rfl rfl), hDI.end hl⟩
      · obtain ⟨p1, p2, p3, p4, p5, c, p6, p7⟩ := hNo i hi
        obtain ⟨f1, f2, f3, f4, f5, f6⟩ := sa 12 rfl rfl i 0
        refine ⟨by rw [f2]; exact p1, by rw [f6]; exact p2, by rw [f4, r 1 (by decide) (by decide)]; exact p3, by rw [f6, r 2 (by decide) (by decide)]; exact p4, by rw [f4]; exact p5, ?_⟩
        by_cases e : i = n
        · subst e
          exact ⟨cN, z6, g1⟩
        · refine ⟨c, p6, ?_⟩
          rw [hold i e hi]
          have g : ∀ x, ¬ (((13, i, x) : Tg).1 = 13 ∧ ((13, i, x) : Tg).2.1 = n) := fun x q => e q.2
          exact ((SamT.us rfl).lst p7).cg (fun x => (g2 _ (g x)).2.1) (fun x => (g2 _ (g x)).2.2.1) (fun x k => (g2 _ (g x)).2.2.2.1 k) ((g2 _ (g 0)).2.2.2.2.2 2)
      · have g : ¬ (((13, i, c) : Tg).1 = 13 ∧ ((13, i, c) : Tg).2.1 = n) := fun q => by
          have e : i = n := q.2
          omega
        rw [(g2 _ g).2.1]
        exact (hNx i hi).2 c
      · obtain ⟨p1, p2, p3, p4, p5, p6, p7, p8, p9, p10, p11, p12, p13⟩ := hLn i hi
        obtain ⟨f1, f2, f3, f4, f5, f6⟩ := (SamT.agO g2 rfl : SamT 16 _ _ _ _) i 0
        obtain ⟨o1, o2, o3, o4, o5, o6⟩ := sa 17 rfl rfl i 0
        obtain ⟨v1, v2, v3, v4, v5, v6⟩ := sa 17 rfl rfl i 1
        have nu : ∀ k, k ≠ 6 → us I (16, l, 0) 6 1 (16, i, 0) k = I (16, i, 0) k := fun k hk => us_ne (fun q => hk q.2)
        refine ⟨by rw [f2]; exact p1, by rw [f6, nu 0 (by decide)]; exact p2, by rw [f4, r 24 (by decide) (by decide)]; exact p3, by rw [f4, r 25 (by decide) (by decide)]; exact p4, by rw [f6, nu 3 (by decide), r 26 (by decide) (by decide)]; exact p5, by rw [f6, nu 4 (by decide), r 27 (by decide) (by decide)]; exact p6, ?_, by rw [f4]; exact p8, by rw [o2]; exact p9, by rw [o4]; exact p10, by rw [v2]; exact p11, by rw [v3, r 21 (by decide) (by decide), r 29 (by decide) (by decide), r 30 (by decide) (by decide)]; exact p12, fun j c hj => ?_⟩
        · rw [f6, d2]
          by_cases e : i = l
          · subst e; rw [us_eq, if_pos rfl]
          · rw [us_ne (fun q => e (congrArg (fun t : Tg => t.2.1) q.1)), if_neg e]; exact p7
        · rw [r 21 (by decide) (by decide), r 29 (by decide) (by decide), r 30 (by decide) (by decide)] at hj
          rw [v6]
          exact p13 j c hj
    · have := lnkN_le (D := D) (nl := nl) (i := n)
      rw [hyz, List.length_append] at this
      exact Nat.lt_of_le_of_lt (by omega) (show 100 < fuL by decide)
  · rw [e28] at k3 ⊢
    refine wp_neg (by decide) (wp_rzX (.inl rfl) ?_)
    have e2 : ds (ds D 0 0 0) 28 l 1 28 = D 28 := funext (fun k => by
      rw [d2]
      by_cases e : k = l
      · rw [if_pos e, e, e28]
      · rw [if_neg e])
    refine k3 E I Nx.rf ⟨hT, hDat.frL ?_, hC, hDI.frL ?_⟩
    · exact ⟨fun j h0 _ => by
        by_cases e : j = 28
        · subst e; exact e2
        · exact r j h0 e, fun k hk => h1.2 k (fun e => hk (by rw [e]; decide))⟩
    · exact ⟨fun j h0 _ => by
        by_cases e : j = 28
        · subst e; exact e2
        · exact r j h0 e, fun k hk => h1.2 k (fun e => hk (by rw [e]; decide))⟩
end DB
