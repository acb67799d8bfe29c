/-! ===== the class answers: outcome, value, reason, beaten ===== -/
section CI
variable {E E' : Es} {D : Nat → Nat → Int32} {I I' : Tg → Nat → Int32} {Z : Nat → Nat} {nn nm ng ns nl nc ax ao cap : Nat} {P : (Int32 ⊕ String) → Gh → Prop}
/-- after the outcome is found -/
theorem c_ask {K : Mo (Int32 ⊕ String)} {x y : Int32} (hc : Cst E I D Z ax ao cap nn nm ng ns nl nc) (k1 : (x < 0 ∨ ¬ x < nI nm) → P (.inr eI) (eXc E 1 6, D, I)) (k2 : ¬ x < 0 → x < nI nm → (y < 0 ∨ ¬ y < 12) → P (.inr eA) (eXc E 1 6, D, I)) (k3 : ∀ m s, m < nm → x = nI m → s < 12 → y = nI s → ∀ E' I', Qk E I E' I' → Cst E' I' D Z ax ao cap nn nm ng ns nl nc → RowW E' I' D nl 0 ((1 : Int32) <<< (nI s &&& 31)) 0 m (wy (D 1) 61 (D 4 m)) → OcIs E' I' 0 (ocD D nl s m (yesO (D 5) m 8) (-1)) → Wp K (E', D, I') P) : Wp (mx (mo 14 (some ax) (f_X11_findOutcome Z (some ax) x y)) (fun _ => K)) (E, D, I) P := by
  refine wp_mx ?_
  refine wc_mo hc.1.1.1.2.1 hc.1.1.2.1 ?_
  exact c_find hc k1 k2 (fun m s hm hx hs hy E1 I1 q1 q2 q3 => k3 m s hm hx hs hy E1 I1 q1 (hc.qk q1) q2 q3)
theorem c_outcome {x y : Int32} (hc : Cst E I D Z ax ao cap nn nm ng ns nl nc) (k1 : (x < 0 ∨ ¬ x < nI nm) → P (.inr eI) (eXc E 1 6, D, I)) (k2 : ¬ x < 0 → x < nI nm → (y < 0 ∨ ¬ y < 12) → P (.inr eA) (eXc E 1 6, D, I)) (k3 : ∀ m s, m < nm → x = nI m → s < 12 → y = nI s → ∀ E' I', Qk E I E' I' → P (.inl (nI (ocD D nl s m (yesO (D 5) m 8) (-1)).1.length)) (E', D, I')) : Wp (f_X11_outcome Z (some ax) x y) (E, D, I) P := by
  unfold f_X11_outcome
  refine c_ask hc k1 k2 (fun m s hm hx hs hy E1 I1 q1 hc1 q2 q3 => ?_)
  refine wc_R hc1.1.1.1.2.1 hc1.1.1.2.1 (hc1.1.1.outR (r := 0) (by omega)).1 rfl ?_
  have hO := hc1.1.2.2.2.2 0 (by omega)
  refine wc_call rfl hO.1 ?_
  unfold f_X7_size
  refine wc_I rfl rfl hO.1 rfl (wp_mp ?_)
  rw [q3.1]
  exact wp_mp (k3 m s hm hx hs hy E1 I1 q1)
theorem c_value {x y k : Int32} (hc : Cst E I D Z ax ao cap nn nm ng ns nl nc) (k1 : (x < 0 ∨ ¬ x < nI nm) → P (.inr eI) (eXc E 1 6, D, I)) (k2 : ¬ x < 0 → x < nI nm → (y < 0 ∨ ¬ y < 12) → P (.inr eA) (eXc E 1 6, D, I)) (k3 : ∀ m s, m < nm → x = nI m → s < 12 → y = nI s → ∀ E' I', Qk E I E' I' → P (.inl (vAt (ocD D nl s m (yesO (D 5) m 8) (-1)).1 k)) (E', D, I')) : Wp (f_X11_value Z (some ax) x y k) (E, D, I) P := by
  unfold f_X11_value
  refine c_ask hc k1 k2 (fun m s hm hx hs hy E1 I1 q1 hc1 q2 q3 => ?_)
  refine wc_R hc1.1.1.1.2.1 hc1.1.1.2.1 (hc1.1.1.outR (r := 0) (by omega)).1 rfl ?_
  have hO := hc1.1.2.2.2.2 0 (by omega)
  refine wc_call rfl hO.1 (c_valueAt hO q3 rfl ?_)
  exact wp_mp (k3 m s hm hx hs hy E1 I1 q1)
/-- the teller, as an address -/
theorem c_teller {Q : Option Nat → Gh → Prop} {q a : Nat} {o : List Int32 × Option Nat} (hO : OutS E q) (h : OcIs E I q o) (ha : eAd E (11, q, 0) = a) (kk : Q (o.2.map (fun l => eAd E (16, l, 0))) (E, D, I)) : Wp (f_X7_teller (some a)) (E, D, I) Q := by
  unfold f_X7_teller
  refine wc_Rm ha hO.1 rfl (wp_mp ?_)
  rw [h.2.2.1, Option.map_map]
  exact kk
/-- who tells is a link -/
theorem oc_in (law : Int32) : ∀ (ps : List (Int32 × Nat)) (s : List Int32 × Option Nat) l, (ps.foldl (ost law) s).2 = some l → s.2 = some l ∨ ∃ p ∈ ps, p.2 = l := by
  intro ps
  induction ps with
  | nil => intro s l h; exact .inl h
  | cons p ps ih =>
    intro s l h
    rcases ih (ost law s p) l h with h2 | ⟨p', hp', e⟩
    · have : (ost law s p).2 = s.2 ∨ (ost law s p).2 = some p.2 := by
        unfold ost
        split
        · first | (exact .inr rfl) | (split <;> first | exact .inr rfl | exact .inl rfl)
        · split
          · first | exact .inr rfl | exact .inl rfl
          · split
            · first | exact .inr rfl | exact .inl rfl
            · first | exact .inr rfl | exact .inl rfl
      rcases this with e | e
      · rw [e] at h2; exact .inl h2
      · rw [e] at h2; exact .inr ⟨p, List.mem_cons_self, Option.some.inj h2⟩
    · exact .inr ⟨p', List.mem_cons_of_mem _ hp', e⟩
theorem ocD_in (hDI : DI cap D nn nm ng ns nl nc) {s m : Nat} {yes but : Int32} {l : Nat} (h : (ocD D nl s m yes but).2 = some l) : l < nl := by
  rcases oc_in _ _ _ l h with e | ⟨p, hp, e⟩
  · cases e
  · unfold psD at hp
    obtain ⟨l', hl', rfl⟩ := List.mem_map.mp hp
    have := (List.mem_filter.mp hl').1
    rw [rowK_eq] at this
    have h5 := hDI.2.2.2.2.1
    rw [← e]
    exact row_lt (srt_lt h5.1 h5.2.2.2.2.2.1) l' (List.mem_filter.mp this).1
theorem c_reason {x y : Int32} (hc : Cst E I D Z ax ao cap nn nm ng ns nl nc) (k1 : (x < 0 ∨ ¬ x < nI nm) → P (.inr eI) (eXc E 1 6, D, I)) (k2 : ¬ x < 0 → x < nI nm → (y < 0 ∨ ¬ y < 12) → P (.inr eA) (eXc E 1 6, D, I)) (k3 : ∀ m s, m < nm → x = nI m → s < 12 → y = nI s → ∀ E' I', Qk E I E' I' → P (.inl (rsn (ocD D nl s m (yesO (D 5) m 8) (-1)).2)) (E', D, I')) : Wp (f_X11_reason Z (some ax) x y) (E, D, I) P := by
  unfold f_X11_reason
  refine c_ask hc k1 k2 (fun m s hm hx hs hy E1 I1 q1 hc1 q2 q3 => ?_)
  refine wc_R hc1.1.1.1.2.1 hc1.1.1.2.1 (hc1.1.1.outR (r := 0) (by omega)).1 rfl ?_
  have hO := hc1.1.2.2.2.2 0 (by omega)
  refine wc_call rfl hO.1 (c_teller hO q3 rfl ?_)
  have k3 := k3 m s hm hx hs hy E1 I1 q1
  unfold f_X11_reason_26
  cases h2 : (ocD D nl s m (yesO (D 5) m 8) (-1)).2 with
  | none => rw [h2] at k3; exact wp_pos rfl (wp_mp k3)
  | some l =>
    rw [h2] at k3
    have hl := ocD_in hc.2.2.2 h2
    obtain ⟨l1, l2, -⟩ := hc1.2.1.2.2.2.2.1.2.1 l hl
    refine wp_neg (by simp) ?_
    refine wc_I (t := (16, l, 0)) rfl rfl l1 rfl ?_
    rw [l2]
    exact wp_mp k3
theorem c_beaten_12 {m s : Nat} {x3 : Int32} {R : List Nat} {c9 : Nat} {o : List Int32 × Option Nat} {H : Nat → Bool} (hc : Cst E I D Z ax ao cap nn nm ng ns nl nc) (hO : OcIs E I 0 o) (ho : ∀ l, o.2 = some l → l < nl) (h9 : Lst E I 9 0 c9 (R.map tgL)) (hR : ∀ l ∈ R, l < nl) (hR100 : R.length ≤ 100) (hH : ∀ i l, R[i]? = some l → lb (eLg E (7, 0, 1) i) 0 = H l) : ∀ (suf pre : List Nat) (fu j : Nat) (v : Int32), pre ++ suf = R → suf.length < fu → j ≤ pre.length → (x3 < 0 → v = -1) → (∀ k, k < 2 ^ 31 → x3 = nI k → j ≤ k ∧ v = lAt (suf.filter (fun l => decide (some l ≠ o.2) && H l)) (nI (k - j))) → P (.inl v) (E, D, I) → Wp (f_X11_beaten_12 Z (some ax) x3 fu (nI j) (nI pre.length)) (E, D, I) P := by
  obtain ⟨hT, hDat, hC, hDI⟩ := id hc
  obtain ⟨hTr, hG, -, hRo, hOu⟩ := id hT
  have hax := hTr.1.2.1
  have t0 := hTr.2.1
  have t9 := (hTr.rowR (r := 0) (by omega)).1
  have t11 := (hTr.outR (r := 0) (by omega)).1
  have hr0 := hRo 0 (by omega)
  have ho0 := hOu 0 (by omega)
  intro suf
  induction suf with
  | nil =>
    intro pre fu j v hp hf hj v1 v2 kk
    cases fu with
    | zero => exact absurd hf (Nat.not_lt_zero _)
    | succ fu =>
      rw [List.append_nil] at hp
      subst hp
      rw [f_X11_beaten_12]
      refine wc_R hax t0 t9 rfl ?_
      refine wc_call rfl hr0.1 (c_rsize hr0 h9 rfl ?_)
      refine wp_pos ((nI_leI (by omega) (by omega)).mpr (Nat.le_refl _)) (wp_mp ?_)
      have : v = -1 := by
        by_cases hx : x3 < 0
        · exact v1 hx
        · obtain ⟨k, hk, e⟩ := nI_of hx
          obtain ⟨q1, q2⟩ := v2 k hk e
          rw [q2]
          unfold lAt
          rw [if_neg (nI_pos (by omega)), List.filter_nil, List.getElem?_nil]
      rw [← this]
      exact kk
  | cons l suf ih =>
    intro pre fu j v hp hf hj v1 v2 kk
    cases fu with
    | zero => exact absurd hf (Nat.not_lt_zero _)
    | succ fu =>
      rw [List.length_cons] at hf
      have hRl : R.length = pre.length + (suf.length + 1) := by rw [← hp, List.length_append, List.length_cons]
      have hget : R[pre.length]? = some l := by rw [← hp, List.getElem?_append_right (Nat.le_refl _), Nat.sub_self]; rfl
      have hl := hR l (List.mem_of_getElem? hget)
      obtain ⟨l1, l2, -⟩ := hDat.2.2.2.2.1.2.1 l hl
      have skip : ∀ fu, suf.length < fu → (decide (some l ≠ o.2) && H l) = false → Wp (f_X11_beaten_12 Z (some ax) x3 fu (nI j) (nI pre.length + 1)) (E, D, I) P := fun fu hf e => by
        rw [nI_1, show pre.length + 1 = (pre ++ [l]).length by rw [List.length_append, List.length_singleton]]
        refine ih (pre ++ [l]) fu j v (by rw [List.append_assoc]; exact hp) hf (by rw [List.length_append]; omega) v1 (fun k hk e3 => ?_) kk
        have := v2 k hk e3
        rw [List.filter_cons_of_neg (by rw [e]; decide)] at this
        exact this
      rw [f_X11_beaten_12]
      unfold f_X11_beaten_83
      refine wc_R hax t0 t9 rfl ?_
      refine wc_call rfl hr0.1 (c_rsize hr0 h9 rfl ?_)
      refine wp_neg (fun e => by have := (nI_leI (by omega) (by omega)).mp e; omega) ?_
      refine wc_R hax t0 t9 rfl ?_
      refine wc_call rfl hr0.1 (c_linkAt hr0 h9 rfl hR100 hget l1 ?_)
      refine wp_neg (by simp) ?_
      refine wc_R hax t0 t11 rfl ?_
      refine wc_call rfl ho0.1 (c_teller ho0 hO rfl ?_)
      by_cases e : some l = o.2
      · refine wp_pos (by rw [← e]; rfl) ?_
        exact skip fu (by omega) (by rw [decide_eq_false (fun q => q e)]; rfl)
      · refine wp_inj (fun inj _ _ => ?_)
        refine wp_neg (fun q => e ?_) ?_
        · cases h2 : o.2 with
          | none => rw [h2] at q; cases q
          | some l' =>
            rw [h2] at q
            have hl' := ho l' h2
            have := inj (16, l, 0) (16, l', 0) (by show eKd E _ ≠ 0; rw [l1]; omega) (by show eKd E _ ≠ 0; rw [(hDat.2.2.2.2.1.2.1 l' hl').1]; omega) (Option.some.inj q)
            rw [show l = l' from congrArg (fun t : Tg => t.2.1) this]
        · refine wc_R hax t0 t9 rfl ?_
          refine wc_call rfl hr0.1 (c_holds (b := 0) hr0 rfl (by omega) (by omega) ?_)
          rw [hH _ l hget]
          cases hh : H l with
          | false =>
            refine wp_pos rfl ?_
            exact skip fu (by omega) (by rw [hh, Bool.and_false])
          | true =>
            have hpos : (decide (some l ≠ o.2) && H l) = true := by rw [decide_eq_true e, hh]; rfl
            refine wp_neg (by show ¬ (b2i true = 0); decide) ?_
            refine wp_ite (fun e3 => ?_) (fun e3 => ?_)
            · refine wc_I (t := (16, l, 0)) rfl rfl l1 rfl (wp_mp ?_)
              have := (v2 j (by omega) e3.symm).2
              rw [List.filter_cons_of_pos (by rw [hpos]), Nat.sub_self] at this
              have e5 : v = nI l := this
              rw [l2, ← e5]
              exact kk
            · rw [nI_1, nI_1, show pre.length + 1 = (pre ++ [l]).length by rw [List.length_append, List.length_singleton]]
              refine ih (pre ++ [l]) fu (j + 1) v (by rw [List.append_assoc]; exact hp) (by omega) (by rw [List.length_append, List.length_singleton]; omega) v1 (fun k hk e4 => ?_) kk
              obtain ⟨q1, q2⟩ := v2 k hk e4
              have hne : k ≠ j := fun e => e3 (by rw [e4, e])
              refine ⟨by omega, ?_⟩
              rw [q2, List.filter_cons_of_pos (by rw [hpos])]
              unfold lAt
              rw [if_neg (nI_pos (by omega)), if_neg (nI_pos (by omega)), nI_clamp (by omega), nI_clamp (by omega), show k - j = (k - (j + 1)) + 1 by omega, List.getElem?_cons_succ]
theorem rsn_ne (hnl : nl ≤ 100) {o : Option Nat} (ho : ∀ l, o = some l → l < nl) {l : Nat} (hl : l < nl) : decide (some l ≠ o) = decide (nI l ≠ rsn o) := by
  have : (some l ≠ o) ↔ (nI l ≠ rsn o) := by
    cases o with
    | none => exact ⟨fun _ => nI_ne_m1 (by omega), fun _ => by simp⟩
    | some l' =>
      have := ho l' rfl
      have e : (nI l = nI l') ↔ l = l' := nI_eq (by omega) (by omega)
      exact ⟨fun h q => h (by rw [e.mp q]), fun h q => h (by rw [Option.some.inj q]; rfl)⟩
  simp only [this]
theorem c_beaten {x y k : Int32} (hc : Cst E I D Z ax ao cap nn nm ng ns nl nc) (k1 : (x < 0 ∨ ¬ x < nI nm) → P (.inr eI) (eXc E 1 6, D, I)) (k2 : ¬ x < 0 → x < nI nm → (y < 0 ∨ ¬ y < 12) → P (.inr eA) (eXc E 1 6, D, I)) (k3 : ∀ m s, m < nm → x = nI m → s < 12 → y = nI s → ∀ E' I', Qk E I E' I' → P (.inl (lAt (btn D s (ocD D nl s m (yesO (D 5) m 8) (-1)).2 (rowK D nl m (yesO (D 5) m 8) (-1) (wy (D 1) 61 (D 4 m)))) k)) (E', D, I')) : Wp (f_X11_beaten Z (some ax) x y k) (E, D, I) P := by
  unfold f_X11_beaten
  refine c_ask hc k1 k2 (fun m s hm hx hs hy E1 I1 q1 hc1 q2 q3 => ?_)
  have hDI := hc.2.2.2
  have h5 := hDI.2.2.2.2.1
  have hn60 := hDI.1.1.2
  obtain ⟨i, w, hi, e4, hw⟩ := hDI.way hm
  have hwy : wy (D 1) 61 (D 4 m) = i :: w := chn_wy hn60 _ 61 hw (by have := chn_len hn60 hw; omega)
  have hlen := rowT_len (st := (1 : Int32) <<< (nI s &&& 31)) hDI hw
  rw [← hwy] at hlen
  obtain ⟨⟨-, ⟨c9, k9, h9⟩, -⟩, hWt⟩ := q2
  have ho : ∀ l, (ocD D nl s m (yesO (D 5) m 8) (-1)).2 = some l → l < nl := fun l h => ocD_in hDI h
  refine c_beaten_12 (m := m) (s := s) (H := fun l => hld (fun v => memB (D 8) (D 6) v m) (yesO (D 5) m 8) (wy (D 1) 61 (D 4 m)) (cdl (D 21) (D 29) (D 30) l)) hc1 q3 ho h9 hlen.1 hlen.2 (fun i l hi => by rw [hWt i l hi 0 (by omega), yG_0]) (rowT D nl ((1 : Int32) <<< (nI s &&& 31)) (wy (D 1) 61 (D 4 m))) [] fuL 0 _ rfl (fu_ok (by omega)) (Nat.zero_le _) (fun h => ?_) (fun k' hk e => ⟨Nat.zero_le _, ?_⟩) (k3 m s hm hx hs hy E1 I1 q1)
  · unfold lAt
    rw [if_pos h]
  · rw [Nat.sub_zero, e]
    congr 1
    unfold btn
    rw [rowK_eq, rowT_eq, List.filter_filter, List.filter_filter]
    refine List.filter_congr (fun l hl => ?_)
    have hll := row_lt (srt_lt h5.1 h5.2.2.2.2.2.1) l hl
    unfold kpB
    rw [rsn_ne h5.1 ho hll, decide_eq_true (p := nI l ≠ -1) (nI_ne_m1 (by have := h5.1; omega))]
    have e6 : tkB D ((1 : Int32) <<< (nI s &&& 31)) l = tlD D s l := by
      cases h : tlD D s l with
      | true => exact tk_one hs l h
      | false =>
        unfold tlD at h
        unfold tkB
        exact decide_eq_false (fun q => q ((bt_b1 (by omega)).mpr h))
    rw [e6]
    cases decide (nI l ≠ rsn (ocD D nl s m (yesO (D 5) m 8) (-1)).2) <;> cases tlD D s l <;> simp
end CI
