/-! ===== the class: an outcome found ===== -/
section CH
variable {E E' : Es} {D : Nat → Nat → Int32} {I I' : Tg → Nat → Int32} {Z : Nat → Nat} {r q nn nm ng ns nl nc lane m s ax ao : Nat} {st : Int32} {w : List Nat}
theorem psD_row {H : Nat → Bool} {yes but : Int32} {wo : Option Nat} (hst : ∀ l, tlD D s l = true → tkB D st l = true) (hR : ∀ l ∈ rowD D nl w, l < 100) (hbut : ∀ l, l < 100 → (some l ≠ wo ↔ nI l ≠ but)) (hH : ∀ l, H l = hld (fun v => memB (D 8) (D 6) v m) yes w (cdl (D 21) (D 29) (D 30) l)) : psD D s ((rowT D nl st w).filter (fun l => decide (some l ≠ wo) && H l)) = psD D s (rowK D nl m yes but w) := by
  unfold psD
  congr 1
  rw [rowT_eq, rowK_eq, List.filter_filter, List.filter_filter, List.filter_filter]
  refine List.filter_congr (fun l hl => ?_)
  unfold kpB
  rw [hH l]
  have e : decide (some l ≠ wo) = decide (nI l ≠ but) := by
    have := hbut l (hR l hl)
    simp only [this]
  rw [e]
  cases h1 : tlD D s l with
  | false => simp
  | true => rw [hst l h1]; simp
theorem TreS.rowR (h : TreS E Z ax ao) (hr : r < 2) : eRf E (2, 0, 0) (9 + r) = some (7, r, 0) ∧ (p_ty 14)[9 + r]? = some 1 := by
  obtain ⟨-, -, -, -, -, -, -, -, -, -, h9, h10, -⟩ := h
  rcases (show r = 0 ∨ r = 1 by omega) with rfl | rfl
  · exact ⟨h9, rfl⟩
  · exact ⟨h10, rfl⟩
theorem TreS.outR (h : TreS E Z ax ao) (hr : r < 2) : eRf E (2, 0, 0) (11 + r) = some (11, r, 0) ∧ (p_ty 14)[11 + r]? = some 1 := by
  obtain ⟨-, -, -, -, -, -, -, -, -, -, h9, h10, h11, h12, -⟩ := h
  rcases (show r = 0 ∨ r = 1 by omega) with rfl | rfl
  · exact ⟨h11, rfl⟩
  · exact ⟨h12, rfl⟩
/-- an outcome is read off a row -/
theorem c_rdS {α : Type} {Q : α → Gh → Prop} {K : Mo α} {ab : Nat → Int32} {b : Nat} {but : Int32} {wo : Option Nat} {v : Option Nat} (hr : r < 2) (hq : q < 2) (hT : StaC E Z ax ao) (hC : CScr E I) (hA : DatA E I D nn ns nl ab) (hRD : RowD D nn ns nl) (hlaw : I (2, 1, 0) s = D 13 s) (h13 : D 13 s = 0 ∨ D 13 s = 1 ∨ D 13 s = 2) (hs : s < 12) (hb : b < 64) (hv : v = wo.map (fun l => eAd E (16, l, 0))) (hwo : ∀ l, wo = some l → l < nl) (hbut : ∀ l, l < 100 → (some l ≠ wo ↔ nI l ≠ but)) (hst : ∀ l, tlD D s l = true → tkB D st l = true) (hR : ∀ l ∈ rowD D nl w, l < 100) (hR1 : ∀ l ∈ rowT D nl st w, l < nl) (hR2 : (rowT D nl st w).length ≤ 100) (hW : RowW E I D nl r st lane m w) (kk : ∀ E' I', FrO q E I E' I' → Qk E I E' I' → OcIs E' I' q (oc (D 13 s) (psD D s (rowK D nl m (yG D m (64 * lane + b)) but w))) → Wp K (E', D, I') Q) : Wp (mb (gR 14 (11 + q) (some ax)) (fun v1 => mb (gR 14 (9 + r) (some ax)) (fun v2 => mb (gR 14 5 (some ax)) (fun v3 => mb (aI 1 v3 (nI s)) (fun v4 => mb (mo 10 v1 (f_X7_read v1 v2 (nI s) v4 (nI b) v)) (fun _ => K)))))) (E, D, I) Q := by
  obtain ⟨hTr, -, -, hRo, hOu⟩ := hT
  obtain ⟨⟨-, hax, -⟩, k2, -, -, -, -, -, k5, -, -, -, -, -, -, -, ⟨kl, kn⟩, -⟩ := id hTr
  obtain ⟨⟨⟨c8, k8, h8⟩, ⟨c9, k9, h9⟩, hSt⟩, hWt⟩ := id hW
  refine wc_R hax k2 (hTr.outR hq).1 (hTr.outR hq).2 ?_
  refine wc_R hax k2 (hTr.rowR hr).1 (hTr.rowR hr).2 ?_
  refine wc_R hax k2 k5 rfl ?_
  refine wc_a (t := (2, 1, 0)) s rfl rfl kl (.inr (.inl rfl)) rfl (by omega) (by rw [kn]; omega) ?_
  rw [hlaw]
  subst hv
  refine wc_call rfl (hOu q hq).1 (c_read (H := fun l => hld (fun v => memB (D 8) (D 6) v m) (yG D m (64 * lane + b)) w (cdl (D 21) (D 29) (D 30) l)) (hRo r hr) (hOu q hq) hA hRD rfl rfl h9 hR1 hR2 hs hb h13 hwo (fun i l hi => hWt i l hi b hb) (fun E1 I1 p1 p2 => ?_))
  rw [psD_row hst hR hbut (fun _ => rfl)] at p2
  exact kk E1 I1 p1 (Qk.o hC p1) p2
theorem tk_one (hs : s < 12) : ∀ l, tlD D s l = true → tkB D ((1 : Int32) <<< (nI s &&& 31)) l = true := by
  intro l h
  unfold tkB
  refine decide_eq_true (fun q => ?_)
  rw [bt_b1 (by omega)] at q
  unfold tlD at h
  rw [q] at h
  cases h
theorem m1_l {l : Nat} (h : l < 100) : (some l ≠ (none : Option Nat) ↔ nI l ≠ -1) := ⟨fun _ => nI_ne_m1 (by omega), fun _ => by simp⟩
theorem rowD_100 {cap : Nat} (hDI : DI cap D nn nm ng ns nl nc) : ∀ l ∈ rowD D nl w, l < 100 := fun l hl => by
  have h5 := hDI.2.2.2.2.1
  have := row_lt (srt_lt h5.1 h5.2.2.2.2.2.1) l hl
  have := h5.1
  omega
/-- a number is asked for -/
theorem c_need {α : Type} {P : (α ⊕ String) → Gh → Prop} {x : Int32} {n : Nat} {K : Mo (α ⊕ String)} (hn : n < 2 ^ 31) (k1 : (x < 0 ∨ ¬ x < nI n) → P (.inr eI) (eXc E 1 6, D, I)) (k2 : ∀ m, m < n → x = nI m → Wp K (E, D, I) P) : Wp (mx (f_X11_needNumber x (nI n)) (fun _ => K)) (E, D, I) P := by
  refine wp_mx ?_
  unfold f_X11_needNumber
  refine wp_ite (fun c => wp_mt (k1 (.inl c))) (fun c => ?_)
  refine wp_ite (fun c2 => wp_mp ?_) (fun c2 => wp_mt (k1 (.inr c2)))
  obtain ⟨m, hm, rfl⟩ := nI_of c
  exact k2 m ((nI_ltI hm hn).mp c2) rfl
theorem c_choice {α : Type} {P : (α ⊕ String) → Gh → Prop} {x : Int32} {n : Nat} {K : Mo (α ⊕ String)} (hn : n < 2 ^ 31) (k1 : (x < 0 ∨ ¬ x < nI n) → P (.inr eA) (eXc E 1 6, D, I)) (k2 : ∀ m, m < n → x = nI m → Wp K (E, D, I) P) : Wp (mx (f_X11_needChoice x (nI n)) (fun _ => K)) (E, D, I) P := by
  refine wp_mx ?_
  unfold f_X11_needChoice
  refine wp_ite (fun c => wp_mt (k1 (.inl c))) (fun c => ?_)
  refine wp_ite (fun c2 => wp_mp ?_) (fun c2 => wp_mt (k1 (.inr c2)))
  obtain ⟨m, hm, rfl⟩ := nI_of c
  exact k2 m ((nI_ltI hm hn).mp c2) rfl
/-- the class as it stands between calls -/
def Cst (E : Es) (I : Tg → Nat → Int32) (D : Nat → Nat → Int32) (Z : Nat → Nat) (ax ao cap nn nm ng ns nl nc : Nat) : Prop := StaC E Z ax ao ∧ DatC E I D nn nm ns nl ∧ CScr E I ∧ DI cap D nn nm ng ns nl nc
theorem Cst.qk {cap : Nat} (h : Cst E I D Z ax ao cap nn nm ng ns nl nc) (hq : Qk E I E' I') : Cst E' I' D Z ax ao cap nn nm ng ns nl nc := ⟨h.1.fr hq.1, h.2.1.fr hq.1, hq.2.1, h.2.2.2⟩
theorem Qk.ad (hq : Qk E I E' I') {t : Tg} (h8 : t.1 ≠ 8) (h9 : t.1 ≠ 9) : eAd E' t = eAd E t := (hq.1.1 t h8 h9).1
/-- a machine's row, weighed without guesses -/
theorem c_rowS {α : Type} {Q : α → Gh → Prop} {K : Mo α} {cap am ad : Nat} {x2 : Int32} (hr : r < 2) (hc : Cst E I D Z ax ao cap nn nm ng ns nl nc) (hm : m < nm) (hma : eAd E (14, m, 0) = am) (had : eAd E (7, r, 0) = ad) (hx : ∀ v, v < 20 → bt x2 v = memB (D 8) (D 6) v m) (kk : ∀ E' I', FrR r E I E' I' → Qk E I E' I' → RowW E' I' D nl r st 0 m (wy (D 1) 61 (D 4 m)) → Wp K (E', D, I') Q) : Wp (mb (mo 11 (some ad) (f_X8_collect Z (some ad) (some am) x2 st)) (fun _ => mb (gR 14 (9 + r) (some ax)) (fun v => mb (mo 11 v (f_X8_weigh Z v (0 : Int32))) (fun _ => K)))) (E, D, I) Q := by
  obtain ⟨i, w, hi, e4, hw⟩ := hc.2.2.2.way hm
  have hnn := hc.2.2.2.1.1.2
  have hwy : wy (D 1) 61 (D 4 m) = i :: w := chn_wy hnn _ 61 hw (by have := chn_len hnn hw; omega)
  rw [hwy] at kk
  have hlen := rowT_len (st := st) hc.2.2.2 hw
  rw [e4] at hw
  refine wc_call had (hc.1.2.2.2.1 r hr).1 (c_coll (r := r) (w := i :: w) hc.1.1.1.1 hr hc.2.2.1 (hc.1.2.2.2.1 r hr) hc.2.1.a hc.2.2.2.rowD had hma (hc.2.1.2.1.2.1 m hm) e4 hi hw hlen.2 hx (fun E1 I1 p1 p2 p3 => ?_))
  have hc1 := hc.qk p2
  refine wc_R hc1.1.1.1.2.1 hc1.1.1.2.1 (hc1.1.1.rowR hr).1 (hc1.1.1.rowR hr).2 ?_
  refine wc_call rfl (hc1.1.2.2.2.1 r hr).1 (c_wgh (lane := 0) hr hc1.2.2.1 (hc1.1.2.2.2.1 r hr) hc1.2.1.a hc1.2.2.2 rfl hlen.1 hlen.2 (by omega) p3 (fun E2 q1 q2 q3 => ?_))
  exact kk E2 I1 (p1.tr q1) (p2.tr q2) q3
theorem c_find {P : (Unit ⊕ String) → Gh → Prop} {cap : Nat} {x y : Int32} (hc : Cst E I D Z ax ao cap nn nm ng ns nl nc) (k1 : (x < 0 ∨ ¬ x < nI nm) → P (.inr eI) (eXc E 1 6, D, I)) (k2 : ¬ x < 0 → x < nI nm → (y < 0 ∨ ¬ y < 12) → P (.inr eA) (eXc E 1 6, D, I)) (k3 : ∀ m s, m < nm → x = nI m → s < 12 → y = nI s → ∀ E' I', Qk E I E' I' → RowW E' I' D nl 0 ((1 : Int32) <<< (nI s &&& 31)) 0 m (wy (D 1) 61 (D 4 m)) → OcIs E' I' 0 (ocD D nl s m (yesO (D 5) m 8) (-1)) → P (.inl ()) (E', D, I')) : Wp (f_X11_findOutcome Z (some ax) x y) (E, D, I) P := by
  obtain ⟨hT, hDat, hC, hDI⟩ := id hc
  obtain ⟨hTr, hG, -, hRo, hOu⟩ := id hT
  obtain ⟨⟨-, hax, -⟩, t0, t1, t2, t3, t4, t5, t6, t7, t8, t9, t10, t11, t12, t13, t14, -⟩ := id hTr
  obtain ⟨⟨cm, km, hL⟩, hMc, -⟩ := hDat.2.1
  have hnm := hDI.2.1.1
  unfold f_X11_findOutcome
  refine wc_R hax t0 t2 rfl ?_
  refine wc_call rfl hL.1 (l_size hL rfl rfl ?_)
  rw [List.length_map, List.length_range]
  refine c_need (by omega) k1 (fun m hm e => ?_)
  subst e
  refine c_choice (n := 12) (by omega) (k2 (nI_pos (by omega)) ((nI_ltI (by omega) (by omega)).mpr hm)) (fun s hs e => ?_)
  subst e
  refine wc_R hax t0 t9 rfl ?_
  refine wc_R hax t0 t2 rfl ?_
  refine wc_call rfl hL.1 (l_get hL rfl rfl (t := (14, m, 0)) (by rw [List.getElem?_map, List.getElem?_range hm]; rfl) ?_)
  refine wc_ck rfl (hMc m hm).1 ?_
  refine wc_R hax t0 t3 rfl ?_
  refine wc_call rfl hG.1 (c_groupsOf hG hDat.2.2.1 hDI.2.2.1 rfl (by omega) (fun x2 hx2 => ?_))
  refine c_rowS (r := 0) (by omega) hc hm rfl rfl (fun v hv => by rw [hx2 v (by omega), decide_eq_true hv, Bool.true_and]) (fun E1 I1 p1 p2 p3 => ?_)
  have hc1 := hc.qk p2
  obtain ⟨i, w, hi, e4, hw⟩ := hDI.way hm
  have hn60 := hDI.1.1.2
  have hwy : wy (D 1) 61 (D 4 m) = i :: w := chn_wy hn60 _ 61 hw (by have := chn_len hn60 hw; omega)
  have hlen := rowT_len (st := (1 : Int32) <<< (nI s &&& 31)) hDI hw
  rw [← hwy] at hlen
  refine c_rdS (r := 0) (q := 0) (b := 0) (wo := none) (but := -1) (st := (1 : Int32) <<< (nI s &&& 31)) (by omega) (by omega) hc1.1 hc1.2.2.1 hc1.2.1.a hDI.rowD (hc1.2.1.2.2.2.1.2.2.2 s hs) (hDI.2.2.2.1.2.2.2.2.2 s) hs (by omega) rfl (fun l h => by cases h) (fun l h => m1_l h) (tk_one hs) (rowD_100 hDI) hlen.1 hlen.2 p3 (fun E2 I2 q1 q2 q3 => ?_)
  rw [yG_0] at q3
  exact wp_mp (k3 m s hm rfl hs rfl E2 I2 (p2.tr q2) (p3.o q1) q3)
end CH
