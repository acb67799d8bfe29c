/-! ===== the class: guesses, weights, doubts ===== -/
theorem gu_bit : ∀ i, i < 6 → ∀ b, b < 64 → lb (gu i) b = b.testBit i := by decide +kernel
/-- what a fact is in a guess -/
def fctB (kn ys : Int32) (lane b i : Nat) : Bool := if bt kn i then bt ys i else if i < 6 then b.testBit i else lane.testBit (i - 6)
section CE
variable {E : Es} {D : Nat → Nat → Int32} {I : Tg → Nat → Int32} {Z : Nat → Nat} {r nn nm ng ns nl nc : Nat}
theorem c_guess {Q : Unit → Gh → Prop} {a lane : Nat} (hS : RowS E r) (ha : eAd E (10, r, 0) = a) (hlane : lane < 4) (kk : ∀ E', FrR r E I E' I → eMc E' = eMc E → eMs E' = eMs E → (∀ k, eLg E' (10, r, 0) k = eLg E (10, r, 0) k) → (∀ i, i < 8 → ∀ b, b < 64 → lb (eLg E' (10, r, 2) i) b = fctB (I (10, r, 0) 2) (I (10, r, 0) 3) lane b i) → (∀ x, Lst E I 8 r x = Lst E' I 8 r x ∧ Lst E I 9 r x = Lst E' I 9 r x) → Q () (E', D, I)) : Wp (f_X9_guess Z (some a) (nI lane)) (E, D, I) Q := by
  have key : ∀ (d i fu : Nat) (f : Nat → Int64), d + i = 8 → d < fu → (∀ j, j < i → ∀ b, b < 64 → lb (f j) b = fctB (I (10, r, 0) 2) (I (10, r, 0) 3) lane b j) → Wp (f_X9_guess_2 Z (some a) (nI lane) fu (nI i)) ((E.1, E.2.1, E.2.2.1, E.2.2.2.1, (fun u j => if u = (10, r, 2) then f j else E.2.2.2.2.1 u j), E.2.2.2.2.2), D, I) Q := by
    intro d
    induction d with
    | zero =>
      intro i fu f hi hf hb
      cases fu with
      | zero => exact absurd hf (Nat.not_lt_zero _)
      | succ fu =>
        generalize hE' : ((E.1, E.2.1, E.2.2.1, E.2.2.2.1, (fun u j => if u = (10, r, 2) then f j else E.2.2.2.2.1 u j), E.2.2.2.2.2) : Es) = E'
        have hS' : RowS E' r := by subst hE'; exact hS
        rw [f_X9_guess_2]
        refine wc_R (t := (10, r, 0)) (by subst hE'; exact ha) hS'.2.2.2.2.2.2.2.1 hS'.2.2.2.2.2.2.2.2.2.1 rfl ?_
        refine wc_aN rfl hS'.2.2.2.2.2.2.2.2.2.2.2.2.1 (by omega) ?_
        rw [hS'.2.2.2.2.2.2.2.2.2.2.2.2.2]
        refine wp_pos ((nI_leI (by omega) (by omega)).mpr (by omega)) (wp_mp (kk E' ?_ ?_ ?_ (fun k => ?_) (fun j hj b hb2 => ?_) (fun x => ?_)))
        · subst hE'
          exact ⟨fun t ht => ⟨rfl, rfl, rfl, fun _ => rfl, fun j => if_neg (fun q => ht ⟨.inr (.inr (.inr (by rw [q]))), by rw [q]⟩), fun _ => rfl⟩, fun _ _ _ => ⟨rfl, rfl, rfl, fun _ => rfl⟩, fun _ _ _ _ _ => rfl, ⟨rfl, rfl⟩, rfl⟩
        · subst hE'; rfl
        · subst hE'; rfl
        · subst hE'; exact if_neg (by simp)
        · rw [show eLg E' (10, r, 2) j = f j by subst hE'; exact if_pos rfl]
          exact hb j (by omega) b hb2
        · subst hE'; exact ⟨rfl, rfl⟩
    | succ d ih =>
      intro i fu f hi hf hb
      cases fu with
      | zero => exact absurd hf (Nat.not_lt_zero _)
      | succ fu =>
        have step : ∀ (v : Int64), (∀ b, b < 64 → lb v b = fctB (I (10, r, 0) 2) (I (10, r, 0) 3) lane b i) → Wp (mb (sL (some (eAd E (10, r, 2))) (nI i) v) (fun _ => f_X9_guess_99 Z (f_X9_guess_2 Z (some a) (nI lane) fu) (some a) (nI lane) (nI i))) ((E.1, E.2.1, E.2.2.1, E.2.2.2.1, (fun u j => if u = (10, r, 2) then f j else E.2.2.2.2.1 u j), E.2.2.2.2.2), D, I) Q := fun v hv => by
          refine wc_sL (t := (10, r, 2)) i rfl hS.2.2.2.2.2.2.2.2.2.2.2.2.1 rfl (by omega) (by show i < eLn E (10, r, 2); rw [hS.2.2.2.2.2.2.2.2.2.2.2.2.2]; omega) ?_
          unfold f_X9_guess_99
          rw [nI_1]
          have h2 := ih (i + 1) fu (fun j => if j = i then v else f j) (by omega) (by omega) (fun j hj b hb2 => by
            by_cases e : j = i
            · rw [if_pos e, e]; exact hv b hb2
            · rw [if_neg e]; exact hb j (by omega) b hb2)
          have e2 : eG (E.1, E.2.1, E.2.2.1, E.2.2.2.1, (fun u j => if u = (10, r, 2) then f j else E.2.2.2.2.1 u j), E.2.2.2.2.2) (10, r, 2) i v = (E.1, E.2.1, E.2.2.1, E.2.2.2.1, (fun u j => if u = (10, r, 2) then (if j = i then v else f j) else E.2.2.2.2.1 u j), E.2.2.2.2.2) := by
            unfold eG
            dsimp only
            congr 6
            funext u j
            by_cases hu : u = (10, r, 2)
            · rw [if_pos hu, if_pos hu]
              by_cases hj : j = i
              · rw [if_pos ⟨hu, hj⟩, if_pos hj]
              · rw [if_neg (fun q => hj q.2), if_neg hj]
            · rw [if_neg hu, if_neg hu, if_neg (fun q => hu q.1)]
          rw [e2]
          exact h2
        have c6 : ∀ {α : Type} {Q : α → Gh → Prop} {g : Gh} {K : Int32 → Mo α}, Wp (K 6) g Q → Wp (mb (aGn (some (Z 1)) Z) K) g Q := fun k => wp_mb fun h hr => ⟨6, h, 0, 0, _, by unfold aGn; rw [if_pos rfl], hr, rfl, rfl, k⟩
        have sp : ∀ (b : Bool), (∀ x, x < 64 → b = fctB (I (10, r, 0) 2) (I (10, r, 0) 3) lane x i) → Wp (mb (f_X9_spread (b2i b)) (fun v => mb (sL (some (eAd E (10, r, 2))) (nI i) v) (fun _ => f_X9_guess_99 Z (f_X9_guess_2 Z (some a) (nI lane) fu) (some a) (nI lane) (nI i)))) ((E.1, E.2.1, E.2.2.1, E.2.2.2.1, (fun u j => if u = (10, r, 2) then f j else E.2.2.2.2.1 u j), E.2.2.2.2.2), D, I) Q := fun b hb2 => wp_mb (c_spread (step (sprd b) (fun x hx => by rw [lb_sprd _ hx]; exact hb2 x hx)))
        rw [f_X9_guess_2]
        refine wc_R (t := (10, r, 0)) ha hS.2.2.2.2.2.2.2.1 hS.2.2.2.2.2.2.2.2.2.1 rfl ?_
        refine wc_aN rfl hS.2.2.2.2.2.2.2.2.2.2.2.2.1 (by omega) ?_
        rw [show eLn (E.1, E.2.1, E.2.2.1, E.2.2.2.1, (fun u j => if u = (10, r, 2) then f j else E.2.2.2.2.1 u j), E.2.2.2.2.2) (10, r, 2) = 8 from hS.2.2.2.2.2.2.2.2.2.2.2.2.2]
        refine wp_neg (fun e => by have := (nI_leI (by omega) (by omega)).mp e; omega) ?_
        refine wc_I (t := (10, r, 0)) ha rfl hS.2.2.2.2.2.2.2.1 rfl ?_
        rw [bt_shr _ (by omega)]
        cases hk : bt (I (10, r, 0) 2) i with
        | false =>
          refine wp_pos rfl (c6 ?_)
          by_cases h6 : i < 6
          · refine wp_neg (fun e => by have := (nI_leI (a := 6) (by omega) (by omega)).mp e; omega) ?_
            refine wc_R (t := (10, r, 0)) ha hS.2.2.2.2.2.2.2.1 hS.2.2.2.2.2.2.2.2.2.1 rfl ?_
            refine wp_mb fun h hr => ⟨gu i, h, 0, 0, _, ?_, hr, rfl, rfl, ?_⟩
            · unfold aG
              rw [if_pos rfl, nI_clamp (by omega), if_neg (fun e => e.elim (nI_pos (by omega)) (fun e => by omega))]
            · exact step (gu i) (fun b hb2 => by rw [gu_bit i h6 b hb2]; unfold fctB; rw [hk, if_neg (by decide), if_pos h6])
          · refine wp_pos ((nI_leI (a := 6) (by omega) (by omega)).mpr (by omega)) ?_
            refine wc_R (t := (10, r, 0)) ha hS.2.2.2.2.2.2.2.1 hS.2.2.2.2.2.2.2.2.2.1 rfl (c6 ?_)
            rw [show (6 : Int32) = nI 6 from rfl, pk_sub (by omega), bt_shr _ (by omega)]
            have hlb : bt (nI lane) (i - 6) = lane.testBit (i - 6) := by
              have : ∀ l, l < 4 → ∀ k, k < 2 → bt (nI l) k = l.testBit k := by decide
              exact this lane hlane (i - 6) (by omega)
            have hfc : ∀ x, lane.testBit (i - 6) = fctB (I (10, r, 0) 2) (I (10, r, 0) 3) lane x i := fun x => by unfold fctB; rw [hk, if_neg (by decide), if_neg h6]
            rw [hlb]
            cases hl : lane.testBit (i - 6) with
            | false => exact wp_pos rfl (sp false (fun x _ => by rw [← hl]; exact hfc x))
            | true => exact wp_neg (by decide) (sp true (fun x _ => by rw [← hl]; exact hfc x))
        | true =>
          refine wp_neg (by decide) ?_
          refine wc_R (t := (10, r, 0)) ha hS.2.2.2.2.2.2.2.1 hS.2.2.2.2.2.2.2.2.2.1 rfl ?_
          refine wc_I (t := (10, r, 0)) ha rfl hS.2.2.2.2.2.2.2.1 rfl ?_
          rw [bt_shr _ (by omega)]
          have hfc : ∀ x, bt (I (10, r, 0) 3) i = fctB (I (10, r, 0) 2) (I (10, r, 0) 3) lane x i := fun x => by unfold fctB; rw [hk, if_pos rfl]
          cases hy : bt (I (10, r, 0) 3) i with
          | false => exact wp_pos rfl (sp false (fun x _ => by rw [← hy]; exact hfc x))
          | true => exact wp_neg (by decide) (sp true (fun x _ => by rw [← hy]; exact hfc x))
  unfold f_X9_guess
  have := key 8 0 fuL (E.2.2.2.2.1 (10, r, 2)) (by omega) (fu_ok (by omega)) (fun j hj => absurd hj (Nat.not_lt_zero _))
  have e : (fun (u : Tg) (j : Nat) => if u = (10, r, 2) then E.2.2.2.2.1 (10, r, 2) j else E.2.2.2.2.1 u j) = E.2.2.2.2.1 := by
    funext u j
    by_cases h : u = (10, r, 2)
    · rw [if_pos h, h]
    · rw [if_neg h]
  rw [e] at this
  exact this
/-- each link's weight -/
theorem c_weigh {Q : Unit → Gh → Prop} {cap ad lane c8 c9 : Nat} {w : List Nat} {R : List Nat} {ws : List Tg} {mem : Nat → Bool} {Y : Nat → Int32} {ab : Nat → Int32} (hS : RowS E r) (hA : DatA E I D nn ns nl ab) (hDI : DI cap D nn nm ng ns nl nc) (ha : eAd E (7, r, 0) = ad) (h8 : Lst E I 8 r c8 ws) (h9 : Lst E I 9 r c9 (R.map tgL)) (hR : ∀ l ∈ R, l < nl) (hR100 : R.length ≤ 100) (hlane : lane < 4) (hmem : ∀ v, v < 20 → bt (I (10, r, 0) 4) v = mem v) (hway : ∀ v, v < 60 → lb (eLg E (10, r, 0) 5) v = decide (v ∈ w)) (hY : ∀ f, f < 8 → ∀ b, b < 64 → bt (Y b) f = fctB (I (10, r, 0) 2) (I (10, r, 0) 3) lane b f) (kk : ∀ E', FrR r E I E' I → eMc E' = eMc E → eMs E' = eMs E → Lst E' I 8 r c8 ws → Lst E' I 9 r c9 (R.map tgL) → (∀ k, eLg E' (10, r, 0) k = eLg E (10, r, 0) k) → (∀ i l, R[i]? = some l → ∀ b, b < 64 → lb (eLg E' (7, r, 1) i) b = hld mem (Y b) w (cdl (D 21) (D 29) (D 30) l)) → Q () (E', D, I)) : Wp (f_X8_weigh Z (some ad) (nI lane)) (E, D, I) Q := by
  unfold f_X8_weigh
  refine wc_R ha hS.1 hS.2.2.2.2.1 rfl ?_
  refine wc_call rfl hS.2.2.2.2.2.2.2.1 (c_guess hS rfl hlane (fun E1 p1 p2 p3 p4 p5 p6 => ?_))
  have hng := hDI.2.2.1.1
  have hnn := hDI.1.1.2
  have key : ∀ (suf pre : List Nat) (fu : Nat) (E' : Es), pre ++ suf = R → suf.length < fu → FrR r E I E' I → eMc E' = eMc E → eMs E' = eMs E → Lst E' I 8 r c8 ws → Lst E' I 9 r c9 (R.map tgL) → (∀ k, eLg E' (10, r, 0) k = eLg E (10, r, 0) k) → (∀ k, eLg E' (10, r, 2) k = eLg E1 (10, r, 2) k) → (∀ i l, i < pre.length → R[i]? = some l → ∀ b, b < 64 → lb (eLg E' (7, r, 1) i) b = hld mem (Y b) w (cdl (D 21) (D 29) (D 30) l)) → Wp (f_X8_weigh_10 Z (some ad) fu (nI pre.length)) (E', D, I) Q := by
    intro suf
    induction suf with
    | nil =>
      intro pre fu E' hp hf hF hmc hms h8' h9' h10 h102 hw'
      cases fu with
      | zero => exact absurd hf (Nat.not_lt_zero _)
      | succ fu =>
        rw [List.append_nil] at hp
        subst hp
        have hS' := hS.fr hF.q
        rw [f_X8_weigh_10]
        refine wc_R (by rw [(hF.2.1 (7, r, 0) (by simp) (by simp)).1]; exact ha) hS'.1 hS'.2.2.1 rfl ?_
        refine wc_call rfl h9'.1 (l_size h9' rfl rfl ?_)
        rw [List.length_map]
        refine wp_pos ((nI_leI (by omega) (by omega)).mpr (Nat.le_refl _)) (wp_mp (kk E' hF hmc hms h8' h9' h10 (fun i l hi => hw' i l ?_ hi)))
        exact (List.getElem?_eq_some_iff.mp hi).1
    | cons l suf ih =>
      intro pre fu E' hp hf hF hmc hms h8' h9' h10 h102 hw'
      cases fu with
      | zero => exact absurd hf (Nat.not_lt_zero _)
      | succ fu =>
        rw [List.length_cons] at hf
        have hRl : R.length = pre.length + (suf.length + 1) := by rw [← hp, List.length_append, List.length_cons]
        have hget : R[pre.length]? = some l := by rw [← hp, List.getElem?_append_right (Nat.le_refl _), Nat.sub_self]; rfl
        have hl := hR l (List.mem_of_getElem? hget)
        have hS' := hS.fr hF.q
        have hA' := hA.fr hF.q
        have ha' : eAd E' (7, r, 0) = ad := by rw [(hF.2.1 (7, r, 0) (by simp) (by simp)).1]; exact ha
        obtain ⟨q1, q2, q3, q4, q5, q6, q7, q8, q9, q10, q11, q12, q13⟩ := hA'.2.2.2 l hl
        obtain ⟨-, -, -, -, -, fr, to, n', e1, e2, e3, e4, e5, e6⟩ := hDI.2.2.2.2.1.2.2.2.1 l hl
        have hnc := hDI.2.2.2.2.1.2.2.1.2.1
        have hnl := hDI.2.2.2.2.1.1
        obtain ⟨d1, d2⟩ := cdl_get (cd := D 21) e1 e2 (by omega) (by omega)
        rw [f_X8_weigh_10]
        refine wc_R ha' hS'.1 hS'.2.2.1 rfl ?_
        refine wc_call rfl h9'.1 (l_size h9' rfl rfl ?_)
        rw [List.length_map]
        refine wp_neg (fun e => by have := (nI_leI (by omega) (by omega)).mp e; omega) ?_
        refine wc_R ha' hS'.1 hS'.2.2.2.1 rfl ?_
        refine wc_aN rfl hS'.2.2.2.2.2.1 (by omega) ?_
        rw [hS'.2.2.2.2.2.2.1]
        refine wp_neg (fun e => by have := (nI_leI (by omega) (by omega)).mp e; omega) ?_
        refine wc_R ha' hS'.1 hS'.2.2.2.1 rfl ?_
        refine wc_R ha' hS'.1 hS'.2.2.1 rfl ?_
        refine wc_call rfl h9'.1 (l_get h9' rfl rfl (t := tgL l) (by rw [List.getElem?_map, hget]; rfl) ?_)
        refine wc_ck rfl q1 ?_
        refine wc_R rfl q1 q8 rfl ?_
        refine wc_R ha' hS'.1 hS'.2.2.2.2.1 rfl ?_
        refine wc_call rfl q9 ?_
        unfold f_X1_weigh
        refine wc_R rfl hS'.2.2.2.2.2.2.2.1 hS'.2.2.2.2.2.2.2.2.1 rfl ?_
        have hT : StdC E' I r mem w Y := ⟨hmem, fun v hv => by rw [h10]; exact hway v hv, fun f hf2 b hb => by rw [h102, p5 f hf2 b hb, hY f hf2 b hb]⟩
        refine c_weigh_10 (l := l) (all := cdl (D 21) (D 29) (D 30) l) hS' hT rfl rfl rfl q9 q10 q11 q12 q13 hng hnn e5 (by omega) (cdl (D 21) (D 29) (D 30) l) [] fuL [] E' rfl (fu_ok (by omega)) e6 (Nat.zero_le _) FrW.rf trivial (fun x E2 r1 r2 => ?_)
        have hFW : FrR r E' I E2 I := FrR.w r1
        obtain ⟨f9, hE2⟩ := r1
        refine wc_sL (t := (7, r, 1)) pre.length (by rw [hE2]) (by rw [hE2]; exact hS'.2.2.2.2.2.1) rfl (by omega) (by rw [hE2]; show _ < eLn E' (7, r, 1); rw [hS'.2.2.2.2.2.2.1]; omega) ?_
        rw [nI_1, show pre.length + 1 = (pre ++ [l]).length by rw [List.length_append, List.length_singleton]]
        refine ih (pre ++ [l]) fu _ (by rw [List.append_assoc]; exact hp) (by omega) ((hF.tr hFW).tr (FrR.eG (.inl rfl))) ?_ ?_ ?_ ?_ (fun k => ?_) (fun k => ?_) (fun i l2 hi hl2 b hb => ?_)
        · rw [hE2]; exact hmc
        · rw [hE2]; exact hms
        · rw [hE2]; exact h8'
        · rw [hE2]; exact h9'
        · rw [eG_ne (by simp), hE2]
          show (if ((10, r, 0) : Tg) = (10, r, 1) then _ else eLg E' (10, r, 0) k) = _
          rw [if_neg (by simp)]
          exact h10 k
        · rw [eG_ne (by simp), hE2]
          show (if ((10, r, 2) : Tg) = (10, r, 1) then _ else eLg E' (10, r, 2) k) = _
          rw [if_neg (by simp)]
          exact h102 k
        · rw [List.length_append, List.length_singleton] at hi
          by_cases e : i = pre.length
          · subst e
            rw [hget] at hl2
            cases hl2
            rw [eG_eq]
            exact r2 b hb
          · have e7 : eLg E2 (7, r, 1) i = eLg E' (7, r, 1) i := by rw [hE2]; rfl
            rw [eG_ne (fun q => e q.2), e7]
            exact hw' i l2 (by omega) hl2 b hb
  exact key R [] fuL E1 rfl (fu_ok (by omega)) p1 p2 p3 (by rw [← (p6 c8).1]; exact h8) (by rw [← (p6 c9).2]; exact h9) p4 (fun _ => rfl) (fun i l hi => absurd hi (Nat.not_lt_zero _))
end CE
