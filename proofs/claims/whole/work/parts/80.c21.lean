/-! ===== the class: move ===== -/
section CQ
variable {E E' : Es} {D : Nat → Nat → Int32} {I I' : Tg → Nat → Int32} {Z : Nat → Nat} {nn nm ng ns nl nc ax ao cap n up : Nat}
/-- the above is put back -/
theorem c_back {α : Type} {Q : α → Gh → Prop} {K : Unit → Mo α} {a : Nat} {o : Option Tg} (ha : eAd E (12, n, 0) = a) (hk : eKd E (12, n, 0) = 109) (ho : ∀ u, o = some u → eKd E u ≠ 0 ∨ u = (0, 0, 0)) (kk : Wp (K ()) (eR E (12, n, 0) 1 o, D, I) Q) : Wp (mb (pV 9 1 (some a) (va_rf (o.map (eAd E)))) K) (E, D, I) Q := by
  cases o with
  | none => exact wc_PRn ha hk rfl rfl kk
  | some u => exact wc_PR ha rfl hk rfl rfl (ho u rfl) kk
theorem c_countMoved {Q : Int32 → Gh → Prop} {m a2 a3 : Nat} {wu : List Nat} (hc : Cst E I D Z ax ao cap nn nm ng ns nl nc) (hm : m < nm) (hn : n < nn) (hup : up < nn) (hu : Chn (D 1) nn wu (nI up)) (hnu : n ∉ wu) (ha2 : eAd E (12, n, 0) = a2) (ha3 : eAd E (12, up, 0) = a3) (kk : ∀ E' I', Qk E I E' I' → Q (nI (chgL D (ds D 1 n (nI up)) nl m (List.range' 0 12))) (E', D, I')) : Wp (f_X11_countMoved Z (some ax) (nI m) (some a2) (some a3)) (E, D, I) Q := by
  obtain ⟨hT, hDat, hC, hDI⟩ := id hc
  obtain ⟨hTr, hG, -, hRo, hOu⟩ := id hT
  obtain ⟨⟨-, hax, -⟩, t0, t1, t2, t3, -⟩ := id hTr
  obtain ⟨⟨cm, km, hL⟩, hMc, -⟩ := hDat.2.1
  have hnm := hDI.2.1.1
  have hn60 := hDI.1.1.2
  obtain ⟨i, w, hi, e4, hw⟩ := hDI.way hm
  have hwy : wy (D 1) 61 (D 4 m) = i :: w := chn_wy hn60 _ 61 hw (by have := chn_len hn60 hw; omega)
  have hlen := rowT_len (st := 4095) hDI hw
  have hDI1 := hDI.move hu hnu
  obtain ⟨i', w', hi', e4', hw'⟩ := hDI1.way hm
  rw [show ds D 1 n (nI up) 4 = D 4 from ds_row (by decide)] at e4' hw'
  have hwy' : wy (ds D 1 n (nI up) 1) 61 (D 4 m) = i' :: w' := chn_wy hn60 _ 61 hw' (by have := chn_len hn60 hw'; omega)
  have hlen' := rowT_mv (st := 4095) hDI hu hnu hw'
  unfold f_X11_countMoved
  refine wp_neg (nI_pos (by omega)) ?_
  refine wc_R hax t0 t2 rfl ?_
  refine wc_call rfl hL.1 (l_size hL rfl rfl ?_)
  rw [List.length_map, List.length_range]
  refine wp_pos ((nI_ltI (by omega) (by omega)).mpr hm) ?_
  refine wc_R hax t0 t2 rfl ?_
  refine wc_call rfl hL.1 (l_get hL rfl rfl (t := (14, m, 0)) (by rw [List.getElem?_map, List.getElem?_range hm]; rfl) ?_)
  refine wc_ck rfl (hMc m hm).1 ?_
  refine wc_R hax t0 t3 rfl ?_
  refine wc_call rfl hG.1 (c_groupsOf hG hDat.2.2.1 hDI.2.2.1 rfl (by omega) (fun x2 hx2 => ?_))
  refine wc_R hax t0 (hTr.rowR (r := 0) (by omega)).1 rfl ?_
  have hx3 : ∀ v, v < 20 → bt x2 v = memB (D 8) (D 6) v m := fun v hv => by rw [hx2 v (by omega), decide_eq_true hv, Bool.true_and]
  refine c_rowS (r := 0) (by omega) hc hm rfl rfl hx3 (fun E1 I1 p1 p2 p3 => ?_)
  have hc1 := hc.qk p2
  rw [hwy] at p3
  have am : eAd E (14, m, 0) = eAd E1 (14, m, 0) := (p2.ad (t := (14, m, 0)) (by simp) (by simp)).symm
  have ha2' : eAd E1 (12, n, 0) = a2 := by rw [p2.ad (by simp) (by simp)]; exact ha2
  have ha3' : eAd E1 (12, up, 0) = a3 := by rw [p2.ad (by simp) (by simp)]; exact ha3
  have hkn := (hc1.2.1.a.1 n hn).1
  have hku := (hc1.2.1.a.1 up hup).1
  rw [am]
  refine wp_inj (fun _ _ live => ?_)
  have hold : ∀ u, eRf E1 (12, n, 0) 1 = some u → eKd E1 u ≠ 0 ∨ u = (0, 0, 0) := fun u h => live (12, n, 0) 1 u (by show eKd E1 _ ≠ 0; rw [hkn]; omega) h
  refine wc_Rm ha2' hkn rfl ?_
  refine wc_PR (u := (12, up, 0)) ha2' ha3' hkn rfl rfl (.inl (by rw [hku]; omega)) ?_
  -- the second row
  have hT2 : StaC (eR E1 (12, n, 0) 1 (some (12, up, 0))) Z ax ao := hc1.1.n12
  have hC2 : CScr (eR E1 (12, n, 0) 1 (some (12, up, 0))) I1 := hc1.2.2.1.n12
  have hA2 : DatA (eR E1 (12, n, 0) 1 (some (12, up, 0))) I1 D nn ns nl (ds D 1 n (nI up) 1) := hc1.2.1.n12 hup hn60
  have hMc1 := hc1.2.1.2.1.2.1 m hm
  refine wc_R hT2.1.1.2.1 hT2.1.2.1 (hT2.1.rowR (r := 1) (by omega)).1 rfl ?_
  rw [e4'] at hw'
  refine wc_call (t := (7, 1, 0)) rfl (hT2.2.2.2.1 1 (by omega)).1 (c_coll (r := 1) (m := m) (i := i') (w := i' :: w') (ab := ds D 1 n (nI up) 1) hT2.1.1.1 (by omega) hC2 (hT2.2.2.2.1 1 (by omega)) hA2 hDI.rowD rfl rfl ⟨hMc1.1, by rw [e12 rfl]; exact hMc1.2.1, hMc1.2.2⟩ e4' hi' hw' hlen'.2 hx3 (fun E3 I3 q1 q2 q3 => ?_))
  have hT3 := hT2.fr q2.1
  have hA3 := hA2.fr q2.1
  refine wc_R hT3.1.1.2.1 hT3.1.2.1 (hT3.1.rowR (r := 1) (by omega)).1 rfl ?_
  refine wc_call rfl (hT3.2.2.2.1 1 (by omega)).1 (c_wgh (r := 1) (lane := 0) (by omega) q2.2.1 (hT3.2.2.2.1 1 (by omega)) hA3 hDI rfl hlen'.1 hlen'.2 (by omega) q3 (fun E4 r1 r2 r3 => ?_))
  have hq : Qk (eR E1 (12, n, 0) 1 (some (12, up, 0))) I1 E4 I3 := q2.tr r2
  have hr : FrR 1 (eR E1 (12, n, 0) 1 (some (12, up, 0))) I1 E4 I3 := q1.tr r1
  have hA4 := hA3.fr r2.1
  have had : ∀ t : Tg, t.1 ≠ 8 → t.1 ≠ 9 → eAd E4 t = eAd E1 t := fun t h8 h9 => hq.ad h8 h9
  have hkd : ∀ t : Tg, t.1 ≠ 8 → t.1 ≠ 9 → eKd E4 t = eKd E1 t := fun t h8 h9 => (hq.1.1 t h8 h9).2.1
  have hold12 : ∀ u, eRf E1 (12, n, 0) 1 = some u → u.1 = 12 := fun u h => by
    rw [(hc1.2.1.a.1 n hn).2] at h
    unfold upT at h
    split at h
    · cases h
    · cases h; rfl
  have emap : (eRf E1 (12, n, 0) 1).map (eAd E1) = (eRf E1 (12, n, 0) 1).map (eAd E4) := by
    cases ho : eRf E1 (12, n, 0) 1 with
    | none => rfl
    | some u =>
      have := hold12 u ho
      show some (eAd E1 u) = some (eAd E4 u)
      rw [had u (by omega) (by omega)]
  rw [emap]
  refine c_back (n := n) (by rw [had _ (by simp) (by simp)]; exact ha2') (hA4.1 n hn).1 (fun u hu2 => ?_) ?_
  · have := hold12 u hu2
    rw [hkd u (by omega) (by omega)]
    exact hold u hu2
  · have hQ5 : Qk E1 I1 (eR E4 (12, n, 0) 1 (eRf E1 (12, n, 0) 1)) I3 := by
      refine ⟨⟨fun t h8 h9 => hq.1.1 t h8 h9, fun t k h8 h9 hk => ?_, fun t k k1 k2 k3 k4 => hq.1.2.2.1 t k k1 k2 k3 k4, hq.1.2.2.2.1, hq.1.2.2.2.2⟩, hq.2.1.n12, ?_⟩
      · by_cases e : t = (12, n, 0) ∧ k = 1
        · obtain ⟨rfl, rfl⟩ := e
          rw [eR_eq]
        · rw [eR_ne e, hq.1.2.1 t k h8 h9 hk, eR_ne e]
      · have := hq.2.2
        rw [pot12] at this
        rw [pot12]
        exact this
    have hc5 := hc1.qk hQ5
    have go := c_cm_107 (Z := Z) (ax := ax) (ao := ao) (n := n) (up := up) (Q := Q) (wu := wu) hDI hm hwy hwy' hlen hlen' (E0 := E) (I0 := I) kk 12 0 fuL _ I3 (by omega) (fu_ok (by omega)) (p2.tr hQ5) hc5 ((p3.n12.oth (by decide) hr).n12) r3.n12
    exact go
theorem chgL_out {m : Nat} {w : List Nat} {x : Int32} (hn60 : nn ≤ 60) (hw : Chn (D 1) nn w (D 4 m)) (hnw : n ∉ w) : chgL D (ds D 1 n (nI up)) nl m (List.range' 0 12) = 0 := by
  unfold chgL
  rw [List.filter_eq_nil_iff.mpr (fun s _ => ?_)]
  · rfl
  · unfold chgB mvF
    have hw' : Chn (ds D 1 n (nI up) 1) nn w (D 4 m) := chn_keep (n := n) (fun k hk => ds_ne (fun q => hk q.2)) w _ hnw hw
    have h1 : wy (ds D 1 n (nI up) 1) 61 (D 4 m) = wy (D 1) 61 (D 4 m) := by
      rw [chn_wy hn60 _ 61 hw' (by have := chn_len hn60 hw'; omega), chn_wy hn60 _ 61 hw (by have := chn_len hn60 hw; omega)]
    rw [ocD_mv, h1, ds_row (by decide)]
    rw [decide_eq_false (fun q => q rfl)]
    decide
theorem c_move {P : (Int32 ⊕ String) → Gh → Prop} {x y : Int32} (hc : Cst E I D Z ax ao cap nn nm ng ns nl nc) (k1 : (x < 0 ∨ ¬ x < nI nn) → P (.inr eI) (eXc E 1 6, D, I)) (k2 : ¬ x < 0 → x < nI nn → (y < 0 ∨ ¬ y < nI nn) → P (.inr eI) (eXc E 1 6, D, I)) (k3 : ∀ n up wu, n < nn → x = nI n → up < nn → y = nI up → Chn (D 1) nn wu (nI up) → (n = 0 ∨ n ∈ wu) → P (.inl (-1)) (E, D, I)) (k4 : ∀ n up wu, n < nn → x = nI n → up < nn → y = nI up → Chn (D 1) nn wu (nI up) → n ≠ 0 → n ∉ wu → ∀ E' I', Qk E I E' I' → P (.inl (nI (chgM D (ds D 1 n (nI up)) nl (List.range' 0 nm)))) (eR E' (12, n, 0) 1 (some (12, up, 0)), D, I')) : Wp (f_X11_move Z (some ax) x y) (E, D, I) P := by
  obtain ⟨hT, hDat, hC, hDI⟩ := id hc
  obtain ⟨⟨-, hax, -⟩, t0, t1, t2, t3, -⟩ := id hT.1
  obtain ⟨⟨cn, kn, hL⟩, hNo, -⟩ := hDat.1
  have hnm := hDI.2.1.1
  have hn60 := hDI.1.1.2
  unfold f_X11_move
  refine wc_R hax t0 t1 rfl ?_
  refine wc_call rfl hL.1 (l_size hL rfl rfl ?_)
  rw [List.length_map, List.length_range]
  refine c_need (by omega) k1 (fun n hn e => ?_)
  subst e
  refine wc_R hax t0 t1 rfl ?_
  refine wc_call rfl hL.1 (l_size hL rfl rfl ?_)
  rw [List.length_map, List.length_range]
  refine c_need (by omega) (k2 (nI_pos (by omega)) ((nI_ltI (by omega) (by omega)).mpr hn)) (fun up hup e => ?_)
  subst e
  obtain ⟨wu, hu⟩ := hDI.1.2.2.1 up hup
  refine wc_R hax t0 t1 rfl ?_
  refine wc_call rfl hL.1 (l_get hL rfl rfl (t := (12, n, 0)) (by rw [List.getElem?_map, List.getElem?_range hn]; rfl) ?_)
  refine wc_ck rfl (hNo n hn).1 ?_
  refine wc_R hax t0 t1 rfl ?_
  refine wc_call rfl hL.1 (l_get hL rfl rfl (t := (12, up, 0)) (by rw [List.getElem?_map, List.getElem?_range hup]; rfl) ?_)
  refine wc_ck rfl (hNo up hup).1 ?_
  unfold f_X11_move_60
  have e0 : nI n = 0 ↔ n = 0 := nI_eq (b := 0) (by omega) (by omega)
  refine wp_ite (fun h => wp_mp (k3 n up wu hn rfl hup rfl hu (.inl (e0.mp h)))) (fun h => ?_)
  have hn0 : n ≠ 0 := fun q => h (e0.mpr q)
  refine wc_call rfl (hNo up hup).1 (c_isWithin hn60 hDat.a.1 hn hu hup rfl rfl ?_)
  by_cases hin : n ∈ wu
  · rw [decide_eq_true hin]
    exact wp_neg (by show ¬ (b2i true = 0); decide) (wp_mp (k3 n up wu hn rfl hup rfl hu (.inr hin)))
  rw [decide_eq_false hin]
  refine wp_pos rfl ?_
  have k4 := k4 n up wu hn rfl hup rfl hu hn0 hin
  have key : ∀ (d m fu c : Nat) (E' : Es) (I' : Tg → Nat → Int32) (a2 a3 : Nat), d + m = nm → d < fu → eAd E' (12, n, 0) = a2 → eAd E' (12, up, 0) = a3 → Qk E I E' I' → Cst E' I' D Z ax ao cap nn nm ng ns nl nc → (∀ E'' I'', Qk E I E'' I'' → P (.inl (nI (c + chgM D (ds D 1 n (nI up)) nl (List.range' m d)))) (eR E'' (12, n, 0) 1 (some (12, up, 0)), D, I'')) → Wp (f_X11_move_68 Z (some ax) (some a2) (some a3) fu (nI c) (nI m)) (E', D, I') P := by
    intro d
    induction d with
    | zero =>
      intro m fu c E' I' a2 a3 hd hf ha2 ha3 hQ hc' kk
      cases fu with
      | zero => exact absurd hf (Nat.not_lt_zero _)
      | succ fu =>
        obtain ⟨⟨-, hax, -⟩, t0, t1, t2, -⟩ := id hc'.1.1
        obtain ⟨⟨cm, km, hLm⟩, hMc, -⟩ := hc'.2.1.2.1
        rw [f_X11_move_68]
        refine wc_R hax t0 t2 rfl ?_
        refine wc_call rfl hLm.1 (l_size hLm rfl rfl ?_)
        rw [List.length_map, List.length_range]
        refine wp_pos ((nI_leI (by omega) (by omega)).mpr (by omega)) ?_
        refine wc_PR (u := (12, up, 0)) ha2 ha3 (hc'.2.1.a.1 n hn).1 rfl rfl (.inl (by rw [(hc'.2.1.a.1 up hup).1]; omega)) ?_
        exact wp_mp (kk E' I' hQ)
    | succ d ih =>
      intro m fu c E' I' a2 a3 hd hf ha2 ha3 hQ hc' kk
      cases fu with
      | zero => exact absurd hf (Nat.not_lt_zero _)
      | succ fu =>
        have hm : m < nm := by omega
        obtain ⟨⟨-, hax, -⟩, t0, t1, t2, -⟩ := id hc'.1.1
        obtain ⟨⟨cm, km, hLm⟩, hMc, -⟩ := hc'.2.1.2.1
        obtain ⟨i, w, hi, e4, hw⟩ := hDI.way hm
        have ecs : chgM D (ds D 1 n (nI up)) nl (List.range' m (d + 1)) = chgL D (ds D 1 n (nI up)) nl m (List.range' 0 12) + chgM D (ds D 1 n (nI up)) nl (List.range' (m + 1) d) := by
          rw [List.range'_succ, chgM]
        rw [f_X11_move_68]
        unfold f_X11_move_116
        refine wc_R hax t0 t2 rfl ?_
        refine wc_call rfl hLm.1 (l_size hLm rfl rfl ?_)
        rw [List.length_map, List.length_range]
        refine wp_neg (fun e => by have := (nI_leI (by omega) (by omega)).mp e; omega) ?_
        refine wc_R hax t0 t2 rfl ?_
        refine wc_call rfl hLm.1 (l_get hLm rfl rfl (t := (14, m, 0)) (by rw [List.getElem?_map, List.getElem?_range hm]; rfl) ?_)
        refine wc_ck rfl (hMc m hm).1 ?_
        refine wc_R rfl (hMc m hm).1 (hMc m hm).2.1 rfl ?_
        rw [e4, nI_clamp (by omega)]
        have hw0 := hw
        rw [e4] at hw
        refine wc_call rfl (hc'.2.1.a.1 i hi).1 (c_isWithin hn60 hc'.2.1.a.1 hn hw hi rfl ha2 ?_)
        by_cases hinw : n ∈ i :: w
        · rw [decide_eq_true hinw]
          refine wp_neg (by show ¬ (b2i true = 0); decide) ?_
          refine wc_call hax t0 (c_countMoved hc' hm hn hup hu hin ha2 ha3 (fun E2 I2 q1 => ?_))
          rw [nI_add, nI_1]
          refine ih (m + 1) fu _ E2 I2 a2 a3 (by omega) (by omega) (by rw [q1.ad (by simp) (by simp)]; exact ha2) (by rw [q1.ad (by simp) (by simp)]; exact ha3) (hQ.tr q1) (hc'.qk q1) ?_
          rw [ecs] at kk
          simp only [Nat.add_assoc] at kk ⊢
          exact kk
        · rw [decide_eq_false hinw]
          refine wp_pos rfl ?_
          rw [nI_1]
          refine ih (m + 1) fu c E' I' a2 a3 (by omega) (by omega) ha2 ha3 hQ hc' ?_
          rw [ecs, chgL_out (x := 0) hn60 hw0 hinw, Nat.zero_add] at kk
          exact kk
  exact key nm 0 fuL 0 E I _ _ (by omega) (fu_ok (by omega)) rfl rfl (Qk.rf hC) hc (by simp only [Nat.zero_add]; exact k4)
end CQ
