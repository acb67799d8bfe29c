/-! ===== the class: filters weighed, sixty-four guesses at once ===== -/
def PilL (f : Nat → Int64) : List Int64 → Prop
  | [] => True
  | b :: s => f s.length = b ∧ PilL f s
theorem PilL.ne {f f' : Nat → Int64} : ∀ (st : List Int64), (∀ i, i < st.length → f' i = f i) → PilL f st → PilL f' st := by
  intro st
  induction st with
  | nil => intro _ _; trivial
  | cons b s ih => exact fun h p => ⟨by rw [h _ (by rw [List.length_cons]; omega)]; exact p.1, ih (fun i hi => h i (by rw [List.length_cons]; omega)) p.2⟩
/-- where a machine stands -/
def StdC (E : Es) (I : Tg → Nat → Int32) (r : Nat) (mem : Nat → Bool) (w : List Nat) (Y : Nat → Int32) : Prop := (∀ v, v < 20 → bt (I (10, r, 0) 4) v = mem v) ∧ (∀ v, v < 60 → lb (eLg E (10, r, 0) 5) v = decide (v ∈ w)) ∧ (∀ f, f < 8 → ∀ b, b < 64 → lb (eLg E (10, r, 2) f) b = bt (Y b) f)
def sprd (b : Bool) : Int64 := if b then -1 else 0
theorem lb_sprd (b : Bool) {i : Nat} (hi : i < 64) : lb (sprd b) i = b := by
  cases b with
  | true => exact lb_m1 i hi
  | false => exact lb_0 i
theorem cv_and : cvS 0 = nI 1024 := by decide
theorem cv_or : cvS 1 = nI 1280 := by decide
theorem cv_not : cvS 2 = nI 768 := by decide
theorem cv_g : ∀ v, v < 60 → cvS (nI (100 + v)) = nI v := by decide
theorem cv_f : ∀ v, v < 60 → cvS (nI (200 + v)) = nI (256 + v) := by decide
theorem cv_n : ∀ v, v < 60 → cvS (nI (300 + v)) = nI (512 + v) := by decide
section CB
variable {E : Es} {D : Nat → Nat → Int32} {I : Tg → Nat → Int32} {Z : Nat → Nat} {r : Nat}
theorem c_spread {Q : Int64 → Gh → Prop} {b : Bool} (kk : Q (sprd b) (E, D, I)) : Wp (f_X9_spread (b2i b)) (E, D, I) Q := by
  unfold f_X9_spread
  cases b with
  | true => exact wp_neg (by decide) (wp_mp kk)
  | false => exact wp_pos rfl (wp_mp kk)
theorem c_atom {Q : Int64 → Gh → Prop} {mem : Nat → Bool} {w : List Nat} {Y : Nat → Int32} {a nn ng v : Nat} {c : Int32} (hS : RowS E r) (hT : StdC E I r mem w Y) (ha : eAd E (10, r, 0) = a) (hng : ng ≤ 20) (hnn : nn ≤ 60) (hc : c = nI (100 + v) ∧ v < ng ∨ c = nI (200 + v) ∧ v < 8 ∨ c = nI (300 + v) ∧ v < nn) (kk : ∀ x, (∀ b, b < 64 → lb x b = atmV mem (Y b) w c) → Q x (E, D, I)) : Wp (f_X9_weighAtom (some a) (cvS c / 256) (cvS c - cvS c / 256 * 256)) (E, D, I) Q := by
  obtain ⟨s1, s2, s3, s4, s5, s6, s7, s8, s9, s10, s11, s12, s13, s14⟩ := hS
  obtain ⟨t1, t2, t3⟩ := hT
  have dv : ∀ u, u < 2 ^ 31 → nI u / (256 : Int32) = nI (u / 256) := fun u hu => pk_div (d := 256) hu (by omega) (by omega)
  have rm : ∀ u, u < 2 ^ 31 → nI u - nI u / (256 : Int32) * (256 : Int32) = nI (u % 256) := fun u hu => pk_rem (d := 256) hu (by omega) (by omega)
  unfold f_X9_weighAtom
  rcases hc with ⟨rfl, hv⟩ | ⟨rfl, hv⟩ | ⟨rfl, hv⟩
  · rw [cv_g v (by omega), rm _ (by omega), dv _ (by omega), show v / 256 = 0 by omega, show v % 256 = v by omega]
    refine wp_pos rfl ?_
    refine wc_I ha rfl s8 rfl ?_
    rw [bt_shr _ (by omega), t1 v (by omega)]
    have kk := kk (sprd (mem v)) (fun b hb => by rw [lb_sprd _ hb, atm_g (by omega)])
    cases hm : mem v with
    | true => rw [hm] at kk; exact wp_neg (by decide) (wp_mb (c_spread (b := true) (wp_mp kk)))
    | false => rw [hm] at kk; exact wp_pos rfl (wp_mb (c_spread (b := false) (wp_mp kk)))
  · rw [cv_f v (by omega), rm _ (by omega), dv _ (by omega), show (256 + v) / 256 = 1 by omega, show (256 + v) % 256 = v by omega]
    refine wp_neg (by decide) (wp_neg (by decide) (wp_neg (nI_pos (by omega)) ?_))
    refine wc_R ha s8 s10 rfl ?_
    refine wc_aN rfl s13 (by omega) ?_
    rw [s14]
    refine wp_neg (fun e => by have := (nI_leI (by omega) (by omega)).mp e; omega) ?_
    refine wc_R ha s8 s10 rfl ?_
    refine wc_aL v rfl s13 rfl (by omega) (by rw [s14]; omega) ?_
    exact wp_mp (kk _ (fun b hb => by rw [t3 v hv b hb, atm_f (by omega)]))
  · rw [cv_n v (by omega), rm _ (by omega), dv _ (by omega), show (512 + v) / 256 = 2 by omega, show (512 + v) % 256 = v by omega]
    refine wp_neg (by decide) (wp_pos rfl ?_)
    refine wc_L ha s8 rfl ?_
    rw [lb_shr _ (by omega), t2 v (by omega)]
    have kk := kk (sprd (decide (v ∈ w))) (fun b hb => by rw [lb_sprd _ hb, atm_n (by omega)])
    by_cases hm : v ∈ w
    · rw [decide_eq_true hm] at kk
      rw [decide_eq_true hm]
      exact wp_neg (by decide) (wp_mb (c_spread (b := true) (wp_mp kk)))
    · rw [decide_eq_false hm] at kk
      rw [decide_eq_false hm]
      exact wp_pos (by decide) (wp_mb (c_spread (b := false) (wp_mp kk)))
/-- only the pile changes -/
def FrW (r : Nat) (E E' : Es) : Prop := ∃ f : Nat → Int64, E' = (E.1, E.2.1, E.2.2.1, E.2.2.2.1, fun u j => if u = (10, r, 1) then f j else E.2.2.2.2.1 u j, E.2.2.2.2.2)
theorem FrW.rf {E : Es} : FrW r E E := ⟨E.2.2.2.2.1 (10, r, 1), by
  have : (fun u j => if u = (10, r, 1) then E.2.2.2.2.1 (10, r, 1) j else E.2.2.2.2.1 u j) = E.2.2.2.2.1 := by
    funext u j
    by_cases h : u = (10, r, 1)
    · rw [if_pos h, h]
    · rw [if_neg h]
  rw [this]⟩
theorem FrW.put {E E' : Es} (h : FrW r E E') (k : Nat) (v : Int64) : FrW r E (eG E' (10, r, 1) k v) := by
  obtain ⟨f, rfl⟩ := h
  refine ⟨fun j => if j = k then v else f j, ?_⟩
  unfold eG
  dsimp only
  congr 6
  funext u j
  by_cases hu : u = (10, r, 1)
  · rw [if_pos hu, if_pos hu]
    by_cases hj : j = k
    · rw [if_pos ⟨hu, hj⟩, if_pos hj]
    · rw [if_neg (fun q => hj q.2), if_neg hj]
  · rw [if_neg hu, if_neg hu, if_neg (fun q => hu q.1)]
theorem c_weigh_10 {Q : Int64 → Gh → Prop} {mem : Nat → Bool} {w : List Nat} {Y : Nat → Int32} {af as ap nn ng n' l : Nat} {all : List Int32} (hS : RowS E r) (hT : StdC E I r mem w Y) (ha : eAd E (10, r, 0) = as) (hap : eAd E (10, r, 1) = ap) (haf : eAd E (17, l, 0) = af) (h17 : eKd E (17, l, 0) = 104) (hr17 : eRf E (17, l, 0) 0 = some (17, l, 1)) (hk17 : eKd E (17, l, 1) = 2) (hl17 : eLn E (17, l, 1) = all.length) (hi17 : ∀ i c, all[i]? = some c → I (17, l, 1) i = cvS c) (hng : ng ≤ 20) (hnn : nn ≤ 60) (hn' : n' ≤ 1) (hall : all.length ≤ 20000) : ∀ (cs pre : List Int32) (fu : Nat) (st : List Int64) (E' : Es), pre ++ cs = all → cs.length < fu → wfC ng nn cs st.length n' → st.length ≤ 60 → FrW r E E' → PilL (eLg E' (10, r, 1)) st → (∀ x E'', FrW r E E'' → (∀ b, b < 64 → lb x b = hdB (evC (atmV mem (Y b) w) cs (st.map (fun y => lb y b)))) → Q x (E'', D, I)) → Wp (f_X1_weigh_10 (some af) (some as) (some ap) fu (nI st.length) (nI pre.length)) (E', D, I) Q := by
  have dv : ∀ u, u < 2 ^ 31 → nI u / (256 : Int32) = nI (u / 256) := fun u hu => pk_div (d := 256) hu (by omega) (by omega)
  intro cs
  induction cs with
  | nil =>
    intro pre fu st E' hp hf hwf hst hF hP kk
    cases fu with
    | zero => exact absurd hf (Nat.not_lt_zero _)
    | succ fu =>
      rw [List.append_nil] at hp
      subst hp
      obtain ⟨f, hE'⟩ := id hF
      rw [f_X1_weigh_10]
      refine wc_R (E := E') (t := (17, l, 0)) (by rw [hE']; exact haf) (by rw [hE']; exact h17) (by rw [hE']; exact hr17) rfl ?_
      refine wc_aN rfl (by rw [hE']; exact hk17) (by omega) ?_
      rw [show eLn E' (17, l, 1) = pre.length by rw [hE']; exact hl17]
      refine wp_pos ((nI_leI (by omega) (by omega)).mpr (Nat.le_refl _)) ?_
      have hwf : st.length = n' := hwf
      cases st with
      | nil =>
        refine wp_pos (by decide) (wp_mp (kk _ E' hF (fun b hb => lb_m1 b hb)))
      | cons x s =>
        have hs : s = [] := by
          cases s with
          | nil => rfl
          | cons c t => rw [List.length_cons, List.length_cons] at hwf; omega
        subst hs
        refine wp_neg (by show ¬ (1 : Int32) ≤ 0; decide) ?_
        refine wc_aL (E := E') (t := (10, r, 1)) 0 (by rw [hE']; exact hap) (by rw [hE']; exact hS.2.2.2.2.2.2.2.2.2.2.1) (by show nI 1 - 1 = nI 0; decide) (by omega) (by rw [show eLn E' (10, r, 1) = 64 by rw [hE']; exact hS.2.2.2.2.2.2.2.2.2.2.2.1]; omega) ?_
        rw [show eLg E' (10, r, 1) 0 = x from hP.1]
        exact wp_mp (kk x E' hF (fun b hb => rfl))
  | cons c cs ih =>
    intro pre fu st E' hp hf hwf hst hF hP kk
    cases fu with
    | zero => exact absurd hf (Nat.not_lt_zero _)
    | succ fu =>
      rw [List.length_cons] at hf
      obtain ⟨f, hE'⟩ := id hF
      have hpl : all.length = pre.length + (cs.length + 1) := by rw [← hp, List.length_append, List.length_cons]
      have hget : all[pre.length]? = some c := by rw [← hp, List.getElem?_append_right (Nat.le_refl _), Nat.sub_self]; rfl
      have a1 : eAd E' (17, l, 0) = af := by rw [hE']; exact haf
      have a2 : eKd E' (17, l, 0) = 104 := by rw [hE']; exact h17
      have a3 : eRf E' (17, l, 0) 0 = some (17, l, 1) := by rw [hE']; exact hr17
      have a4 : eKd E' (17, l, 1) = 2 := by rw [hE']; exact hk17
      have a5 : eLn E' (17, l, 1) = all.length := by rw [hE']; exact hl17
      have b1 : eAd E' (10, r, 1) = ap := by rw [hE']; exact hap
      have b2 : eKd E' (10, r, 1) = 3 := by rw [hE']; exact hS.2.2.2.2.2.2.2.2.2.2.1
      have b3 : eLn E' (10, r, 1) = 64 := by rw [hE']; exact hS.2.2.2.2.2.2.2.2.2.2.2.1
      have hS' : RowS E' r := by rw [hE']; exact hS
      have hT' : StdC E' I r mem w Y := by
        obtain ⟨t1, t2, t3⟩ := hT
        refine ⟨t1, fun v hv => ?_, fun g hg b hb => ?_⟩
        · rw [show eLg E' (10, r, 0) 5 = eLg E (10, r, 0) 5 by rw [hE']; exact if_neg (by simp)]
          exact t2 v hv
        · rw [show eLg E' (10, r, 2) g = eLg E (10, r, 2) g by rw [hE']; exact if_neg (by simp)]
          exact t3 g hg b hb
      have go : ∀ (st2 : List Int64) (E2 : Es) (n2 : Nat), n2 = st2.length → wfC ng nn cs st2.length n' → st2.length ≤ 60 → FrW r E E2 → PilL (eLg E2 (10, r, 1)) st2 → (∀ b, b < 64 → evC (atmV mem (Y b) w) (c :: cs) (st.map (fun y => lb y b)) = evC (atmV mem (Y b) w) cs (st2.map (fun y => lb y b))) → Wp (f_X1_weigh_139 (f_X1_weigh_10 (some af) (some as) (some ap) fu) (some af) (some as) (some ap) (nI n2) (nI pre.length)) (E2, D, I) Q := fun st2 E2 n2 e2 q1 q2 q3 q4 q5 => by
        subst e2
        unfold f_X1_weigh_139
        rw [nI_1, show pre.length + 1 = (pre ++ [c]).length by rw [List.length_append, List.length_singleton]]
        exact ih (pre ++ [c]) fu st2 E2 (by rw [List.append_assoc]; exact hp) (by omega) q1 q2 q3 q4 (fun x E3 r1 r2 => kk x E3 r1 (fun b hb => by rw [q5 b hb]; exact r2 b hb))
      rw [f_X1_weigh_10]
      refine wc_R a1 a2 a3 rfl ?_
      refine wc_aN rfl a4 (by omega) ?_
      rw [a5]
      refine wp_neg (fun e => by have := (nI_leI (by omega) (by omega)).mp e; omega) ?_
      refine wc_R a1 a2 a3 rfl ?_
      refine wc_a pre.length rfl rfl a4 (.inr (.inl rfl)) rfl (by omega) (by rw [a5]; omega) ?_
      rw [hi17 _ _ hget]
      rcases hwf with ⟨hc01, h2, hwf⟩ | ⟨hc2, h1, hwf⟩ | ⟨⟨v, hv⟩, h60, hwf⟩
      · obtain ⟨y, x, s, rfl⟩ : ∃ b a s, st = b :: a :: s := by
          cases st with
          | nil => exact absurd h2 (by decide)
          | cons b t =>
            cases t with
            | nil => exact absurd h2 (by show ¬ 2 ≤ 1; decide)
            | cons a s => exact ⟨b, a, s, rfl⟩
        simp only [List.length_cons] at h2 hst hwf
        rw [show (y :: x :: s).length = s.length + 1 + 1 from rfl]
        have e1 : nI (s.length + 1 + 1) + (-1) = nI (s.length + 1) := pk_m1 _
        have e2 : nI (s.length + 1) - 1 = nI s.length := nI_pred _
        have p1 : eLg E' (10, r, 1) (s.length + 1) = y := hP.1
        have p2 : eLg E' (10, r, 1) s.length = x := hP.2.1
        have fin : ∀ (z : Int64), (∀ b, b < 64 → evC (atmV mem (Y b) w) (c :: cs) ((y :: x :: s).map (fun y => lb y b)) = evC (atmV mem (Y b) w) cs ((z :: s).map (fun y => lb y b))) → Wp (f_X1_weigh_138 (f_X1_weigh_10 (some af) (some as) (some ap) fu) (some af) (some as) (some ap) (nI (s.length + 1)) (nI pre.length) (some ap) (nI s.length) z) (E', D, I) Q := fun z hz => by
          unfold f_X1_weigh_138
          refine wc_sL s.length b1 b2 rfl (by omega) (by rw [b3]; omega) ?_
          refine go (z :: s) _ _ rfl (by rw [List.length_cons, show s.length + 1 = s.length + 1 + 1 - 1 by omega]; exact hwf) (by rw [List.length_cons]; omega) (hF.put _ _) ⟨eG_eq, PilL.ne s (fun i hi => eG_ne (fun q => by have := q.2; omega)) hP.2.2⟩ hz
        rw [e1, e2]
        rcases hc01 with hc | hc
        · subst hc
          rw [cv_and, dv _ (by omega), show (1024 : Nat) / 256 = 4 from rfl]
          refine wp_pos (by decide) (wp_neg (by decide) (wp_neg (fun e => by have := (nI_leI (b := 1) (by omega) (by omega)).mp e; omega) ?_))
          refine wc_aL s.length b1 b2 rfl (by omega) (by rw [b3]; omega) ?_
          rw [p2]
          refine wp_pos rfl ?_
          refine wc_aL (s.length + 1) b1 b2 rfl (by omega) (by rw [b3]; omega) ?_
          rw [p1]
          exact fin (x &&& y) (fun b hb => by rw [List.map_cons, List.map_cons, List.map_cons, evC, evS, if_pos rfl, lb_and]; rfl)
        · subst hc
          rw [cv_or, dv _ (by omega), show (1280 : Nat) / 256 = 5 from rfl]
          refine wp_pos (by decide) (wp_neg (by decide) (wp_neg (fun e => by have := (nI_leI (b := 1) (by omega) (by omega)).mp e; omega) ?_))
          refine wc_aL s.length b1 b2 rfl (by omega) (by rw [b3]; omega) ?_
          rw [p2]
          refine wp_neg (by decide) ?_
          refine wc_aL (s.length + 1) b1 b2 rfl (by omega) (by rw [b3]; omega) ?_
          rw [p1]
          exact fin (x ||| y) (fun b hb => by rw [List.map_cons, List.map_cons, List.map_cons, evC, evS, if_neg (by decide), if_pos rfl, lb_or]; rfl)
      · subst hc2
        obtain ⟨y, s, rfl⟩ : ∃ b s, st = b :: s := by
          cases st with
          | nil => exact absurd h1 (by decide)
          | cons b t => exact ⟨b, t, rfl⟩
        simp only [List.length_cons] at h1 hst hwf
        rw [show (y :: s).length = s.length + 1 from rfl]
        have e2 : nI (s.length + 1) - 1 = nI s.length := nI_pred _
        have p1 : eLg E' (10, r, 1) s.length = y := hP.1
        rw [cv_not, dv _ (by omega), show (768 : Nat) / 256 = 3 from rfl, e2]
        refine wp_pos (by decide) (wp_pos rfl (wp_neg (nI_nle (by omega) (by omega)) ?_))
        refine wc_aL s.length b1 b2 rfl (by omega) (by rw [b3]; omega) ?_
        rw [p1]
        refine wc_sL s.length b1 b2 rfl (by omega) (by rw [b3]; omega) ?_
        refine go ((y ^^^ (-1)) :: s) _ _ rfl hwf (by rw [List.length_cons]; omega) (hF.put _ _) ⟨eG_eq, PilL.ne s (fun i hi => eG_ne (fun q => by have := q.2; omega)) hP.2⟩ (fun b hb => ?_)
        rw [List.map_cons, List.map_cons, evC, evS, if_neg (by decide), if_neg (by decide), if_pos rfl, lb_no _ hb]
        rfl
      · have hk3 : cvS c / 256 = nI 0 ∨ cvS c / 256 = nI 1 ∨ cvS c / 256 = nI 2 := by
          rcases hv with ⟨rfl, hv⟩ | ⟨rfl, hv⟩ | ⟨rfl, hv⟩
          · rw [cv_g v (by omega), dv _ (by omega), show v / 256 = 0 by omega]; exact .inl rfl
          · rw [cv_f v (by omega), dv _ (by omega), show (256 + v) / 256 = 1 by omega]; exact .inr (.inl rfl)
          · rw [cv_n v (by omega), dv _ (by omega), show (512 + v) / 256 = 2 by omega]; exact .inr (.inr rfl)
        refine wp_neg (fun e => by rcases hk3 with h | h | h <;> rw [h] at e <;> exact absurd e (by decide)) ?_
        refine wc_aN b1 b2 (by omega) ?_
        rw [b3]
        refine wp_neg (fun e => by have := (nI_leI (by omega) (by omega)).mp e; omega) ?_
        refine wc_R a1 a2 a3 rfl ?_
        refine wc_a pre.length rfl rfl a4 (.inr (.inl rfl)) rfl (by omega) (by rw [a5]; omega) ?_
        rw [hi17 _ _ hget]
        refine wc_call (t := (10, r, 0)) (by rw [hE']; exact ha) hS'.2.2.2.2.2.2.2.1 (c_atom (a := as) hS' hT' (by rw [hE']; exact ha) hng hnn hv (fun x hx => ?_))
        refine wc_sL st.length b1 b2 rfl (by omega) (by rw [b3]; omega) ?_
        rw [nI_1]
        refine go (x :: st) _ _ rfl hwf (by rw [List.length_cons]; omega) (hF.put _ _) ⟨eG_eq, PilL.ne st (fun i hi => eG_ne (fun q => by have := q.2; omega)) hP⟩ (fun b hb => ?_)
        rw [List.map_cons, hx b hb]
        rcases hv with ⟨rfl, hv⟩ | ⟨rfl, hv⟩ | ⟨rfl, hv⟩ <;> exact ev_atom (by omega) (by omega) _ _
end CB
