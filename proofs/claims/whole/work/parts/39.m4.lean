/-! ===== the model: does a filter hold ===== -/
def Pil (f : Nat → Int32) : List Bool → Prop
  | [] => True
  | b :: s => f s.length = b2i b ∧ Pil f s
theorem Pil.ne {f f' : Nat → Int32} : ∀ (st : List Bool), (∀ i, i < st.length → f' i = f i) → Pil f st → Pil f' st := by
  intro st
  induction st with
  | nil => intro _ _; trivial
  | cons b s ih => exact fun h p => ⟨by rw [h _ (by rw [List.length_cons]; omega)]; exact p.1, ih (fun i hi => h i (by rw [List.length_cons]; omega)) p.2⟩
theorem b2i_z (b : Bool) : b2i b = 0 ↔ b = false := by cases b <;> decide
theorem b2i_01 (b : Bool) : b2i b = 0 ∨ b2i b = 1 := by cases b; exact .inl rfl; exact .inr rfl
theorem kp3 (b : Bool) : kp 3 (b2i b) = b2i b := by cases b <;> rfl
theorem atm_g {mem : Nat → Bool} {yes : Int32} {w : List Nat} {v : Nat} (h : v < 100) : atmV mem yes w (nI (100 + v)) = mem v := by
  unfold atmV
  rw [if_pos (show nI (100 + v) < 200 from (nI_ltI (b := 200) (by omega) (by omega)).mpr (by omega)), nI_clamp (by omega), show (100 + v) % 100 = v by omega]
theorem atm_f {mem : Nat → Bool} {yes : Int32} {w : List Nat} {v : Nat} (h : v < 100) : atmV mem yes w (nI (200 + v)) = bt yes v := by
  unfold atmV
  rw [if_neg (fun e => by have := (nI_ltI (b := 200) (by omega) (by omega)).mp e; omega), if_pos (show nI (200 + v) < 300 from (nI_ltI (b := 300) (by omega) (by omega)).mpr (by omega)), nI_clamp (by omega), show (200 + v) % 100 = v by omega]
theorem atm_n {mem : Nat → Bool} {yes : Int32} {w : List Nat} {v : Nat} (h : v < 100) : atmV mem yes w (nI (300 + v)) = decide (v ∈ w) := by
  unfold atmV
  rw [if_neg (fun e => by have := (nI_ltI (b := 200) (by omega) (by omega)).mp e; omega), if_neg (fun e => by have := (nI_ltI (b := 300) (by omega) (by omega)).mp e; omega), nI_clamp (by omega), show (300 + v) % 100 = v by omega]
theorem ev_atom {atm : Int32 → Bool} {u : Nat} (h : 3 ≤ u) (h2 : u < 2 ^ 31) (r : List Int32) (st : List Bool) : evC atm (nI u :: r) st = evC atm r (atm (nI u) :: st) := by
  rw [evC, evS, if_neg (fun e => by have := (nI_eq (b := 0) h2 (by omega)).mp e; omega), if_neg (fun e => by have := (nI_eq (b := 1) h2 (by omega)).mp e; omega), if_neg (fun e => by have := (nI_eq (b := 2) h2 (by omega)).mp e; omega)]
section MD
variable {E : Es} {D : Nat → Nat → Int32} {I : Tg → Nat → Int32} {am : Nat}
theorem m_holds_11 {Q : Int32 → Gh → Prop} (hM : ModS E am) {nn ng l m to n' : Nat} {yes : Int32} {w : List Nat} {mem : Nat → Bool} (hnn : nn ≤ 60) (hng : ng ≤ 20) (hl : l < 100) (hm : m < 60) (hto : D 30 l = nI to) (hcap : to ≤ eCu E) (htb : to < 2 ^ 31) (hw : Chn (D 1) nn w (D 4 m)) (hmem : ∀ v, v < ng → ((D 33 v &&& D 6 m) = 0 ↔ mem v = false)) (hn' : n' ≤ 1) : ∀ (cs : List Int32) (k n : Nat) (st : List Bool) (D' : Nat → Nat → Int32), (∀ j, j ≠ 23 → D' j = D j) → k + cs.length = to → (∀ i, i < cs.length → cs[i]? = some (D 21 (k + i))) → wfC ng nn cs st.length n' → Pil (D' 23) st → st.length ≤ 60 → cs.length < n → (∀ D'', (∀ j, j ≠ 23 → D'' j = D j) → Q (b2i (hdB (evC (atmV mem yes w) cs st))) (E, D'', I)) → Wp (f_X12_holds_11 (some am) (nI l) (nI m) yes n (nI st.length) (nI k)) (E, D', I) Q := by
  intro cs
  induction cs with
  | nil =>
    intro k n st D' hD hk hc hwf hp hst hf kk
    cases n with
    | zero => exact absurd hf (Nat.not_lt_zero _)
    | succ n =>
      rw [f_X12_holds_11]
      refine wm_R hM (by decide) (by decide) rfl ?_
      refine wm_a hM l rfl (by show l < 100; omega) rfl (by decide) (by decide) (by omega) ?_
      rw [hD 30 (by omega), hto]
      have hk : k + 0 = to := hk
      refine wp_pos ((nI_leI (by omega) (by omega)).mpr (by omega)) ?_
      have hwf : st.length = n' := hwf
      have kk := kk D' hD
      rw [evC] at kk
      cases st with
      | nil => exact wp_pos rfl (wp_rz (.inr rfl) kk)
      | cons b s =>
        have hs : s = [] := by
          cases s with
          | nil => rfl
          | cons c t => rw [List.length_cons, List.length_cons] at hwf; omega
        subst hs
        refine wp_neg (by show ¬ (1 : Int32) = 0; decide) ?_
        refine wm_R hM (by decide) (by decide) rfl ?_
        refine wm_a hM 0 rfl (by show 0 < 64; omega) rfl (by decide) (by decide) (by omega) ?_
        rw [show D' 23 0 = b2i b from hp.1]
        cases b with
        | false => exact wp_pos rfl (wp_rz (.inl rfl) kk)
        | true => exact wp_neg (by decide) (wp_rz (.inr rfl) kk)
  | cons c r ih =>
    intro k n st D' hD hk hc hwf hp hst hf kk
    cases n with
    | zero => exact absurd hf (Nat.not_lt_zero _)
    | succ n =>
      rw [List.length_cons] at hk hf
      have hc0 : D 21 k = c := by
        have := hc 0 (by rw [List.length_cons]; omega)
        simpa using this.symm
      have hcr : ∀ i, i < r.length → r[i]? = some (D 21 (k + 1 + i)) := fun i hi => by
        have := hc (i + 1) (by rw [List.length_cons]; omega)
        rw [List.getElem?_cons_succ] at this
        rw [this, show k + (i + 1) = k + 1 + i by omega]
      rw [f_X12_holds_11]
      refine wm_R hM (by decide) (by decide) rfl ?_
      refine wm_a hM l rfl (by show l < 100; omega) rfl (by decide) (by decide) (by omega) ?_
      rw [hD 30 (by omega), hto]
      refine wp_neg (fun e => by have := (nI_leI (by omega) (by omega)).mp e; omega) ?_
      refine wm_Rk hM ?_
      refine wm_ak hM k rfl (by omega) (by omega) ?_
      rw [hD 21 (by omega), hc0]
      -- going on
      have go : ∀ (st' : List Bool) (D'' : Nat → Nat → Int32) (n2 : Nat), n2 = st'.length → (∀ j, j ≠ 23 → D'' j = D j) → wfC ng nn r st'.length n' → Pil (D'' 23) st' → st'.length ≤ 60 → evC (atmV mem yes w) (c :: r) st = evC (atmV mem yes w) r st' → Wp (f_X12_holds_237 (f_X12_holds_11 (some am) (nI l) (nI m) yes n) (some am) (nI l) (nI m) yes (nI n2) (nI k)) (E, D'', I) Q := fun st' D'' n2 e2 q1 q2 q3 q4 q5 => by
        subst e2
        unfold f_X12_holds_237
        rw [nI_1]
        refine ih (k + 1) n st' D'' q1 (by omega) hcr q2 q3 q4 (by omega) (fun D3 h3 => ?_)
        rw [← q5]
        exact kk D3 h3
      rcases hwf with ⟨hc01, h2, hwf⟩ | ⟨hc2, h1, hwf⟩ | ⟨⟨v, hv⟩, h60, hwf⟩
      · -- and, or
        obtain ⟨b, a, s, rfl⟩ : ∃ b a s, st = b :: a :: s := by
          cases st with
          | nil => exact absurd h2 (by decide)
          | cons b t =>
            cases t with
            | nil => exact absurd h2 (by show ¬ 2 ≤ 1; decide)
            | cons a s => exact ⟨b, a, s, rfl⟩
        simp only [List.length_cons] at h2 hst hwf
        rw [show (b :: a :: s).length = s.length + 1 + 1 from rfl]
        have e1 : nI (s.length + 1 + 1) + (-1) = nI (s.length + 1) := pk_m1 _
        have e2 : nI (s.length + 1) - 1 = nI s.length := nI_pred _
        have p1 : D' 23 (s.length + 1) = b2i b := hp.1
        have p2 : D' 23 s.length = b2i a := hp.2.1
        have fin : ∀ (x : Bool) , evC (atmV mem yes w) (c :: r) (b :: a :: s) = evC (atmV mem yes w) r (x :: s) → Wp (f_X12_holds_110 (f_X12_holds_11 (some am) (nI l) (nI m) yes n) (some am) (nI l) (nI m) yes (nI (s.length + 1)) (nI k) (some (eAd E (1, 23, 0))) (nI s.length) (b2i x)) (E, D', I) Q := fun x hx => by
          unfold f_X12_holds_110
          refine wm_s hM s.length rfl (by show s.length < 64; omega) rfl (by decide) (by decide) (by omega) ?_
          rw [kp3]
          refine go (x :: s) _ _ rfl (fun j hj => by rw [ds_row hj, hD j hj]) (by rw [List.length_cons, show s.length + 1 = s.length + 1 + 1 - 1 by omega]; exact hwf) ⟨ds_eq, Pil.ne s (fun i hi => ds_ne (by omega)) hp.2.2⟩ (by rw [List.length_cons]; omega) hx
        rw [e1, e2]
        rcases hc01 with hc | hc
        · subst hc
          refine wp_neg (by decide) ?_
          refine wm_R hM (by decide) (by decide) rfl ?_
          refine wp_pos rfl ?_
          refine wm_R hM (by decide) (by decide) rfl ?_
          refine wm_a hM s.length rfl (by show s.length < 64; omega) rfl (by decide) (by decide) (by omega) ?_
          rw [p2]
          cases a with
          | false =>
            refine wp_pos rfl ?_
            exact fin false (by rw [evC, evS, if_pos rfl]; rfl)
          | true =>
            refine wp_neg (by decide) ?_
            refine wm_R hM (by decide) (by decide) rfl ?_
            refine wm_a hM (s.length + 1) rfl (by show s.length + 1 < 64; omega) rfl (by decide) (by decide) (by omega) ?_
            rw [p1]
            cases b with
            | false => exact wp_pos rfl (fin false (by rw [evC, evS, if_pos rfl]; rfl))
            | true => exact wp_neg (by decide) (fin true (by rw [evC, evS, if_pos rfl]; rfl))
        · subst hc
          refine wp_neg (by decide) ?_
          refine wm_R hM (by decide) (by decide) rfl ?_
          refine wp_neg (by decide) ?_
          refine wm_R hM (by decide) (by decide) rfl ?_
          refine wm_a hM s.length rfl (by show s.length < 64; omega) rfl (by decide) (by decide) (by omega) ?_
          rw [p2]
          have eo : ∀ a b : Bool, evC (atmV mem yes w) (1 :: r) (b :: a :: s) = evC (atmV mem yes w) r ((a || b) :: s) := fun a b => by rw [evC, evS, if_neg (by decide), if_pos rfl]; rfl
          cases a with
          | true =>
            refine wp_neg (by decide) ?_
            exact fin true (eo _ _)
          | false =>
            refine wp_pos rfl ?_
            refine wm_R hM (by decide) (by decide) rfl ?_
            refine wm_a hM (s.length + 1) rfl (by show s.length + 1 < 64; omega) rfl (by decide) (by decide) (by omega) ?_
            rw [p1]
            cases b with
            | false => exact wp_pos rfl (fin false (eo _ _))
            | true => exact wp_neg (by decide) (fin true (eo _ _))
      · -- not
        subst hc2
        obtain ⟨b, s, rfl⟩ : ∃ b s, st = b :: s := by
          cases st with
          | nil => exact absurd h1 (by decide)
          | cons b t => exact ⟨b, t, rfl⟩
        simp only [List.length_cons] at h1 hst hwf
        rw [show (b :: s).length = s.length + 1 from rfl]
        have e2 : nI (s.length + 1) - 1 = nI s.length := nI_pred _
        have p1 : D' 23 s.length = b2i b := hp.1
        rw [e2]
        refine wp_pos (by decide) (wp_pos rfl ?_)
        refine wm_R hM (by decide) (by decide) rfl ?_
        refine wm_R hM (by decide) (by decide) rfl ?_
        refine wm_a hM s.length rfl (by show s.length < 64; omega) rfl (by decide) (by decide) (by omega) ?_
        rw [p1]
        have fin : ∀ (x : Bool) , x = !b → Wp (f_X12_holds_145 (f_X12_holds_11 (some am) (nI l) (nI m) yes n) (some am) (nI l) (nI m) yes (nI (s.length + 1)) (nI k) (some (eAd E (1, 23, 0))) (nI s.length) (b2i x)) (E, D', I) Q := fun x hx => by
          unfold f_X12_holds_145
          refine wm_s hM s.length rfl (by show s.length < 64; omega) rfl (by decide) (by decide) (by omega) ?_
          rw [kp3]
          refine go (x :: s) _ _ rfl (fun j hj => by rw [ds_row hj, hD j hj]) hwf ⟨ds_eq, Pil.ne s (fun i hi => ds_ne (by omega)) hp.2⟩ (by rw [List.length_cons]; omega) ?_
          rw [hx, evC, evS, if_neg (by decide), if_neg (by decide), if_pos rfl]
          rfl
        cases b with
        | false => exact wp_pos rfl (fin true rfl)
        | true => exact wp_neg (by decide) (fin false rfl)
      · -- atoms
        have push : ∀ (x : Bool), evC (atmV mem yes w) (c :: r) st = evC (atmV mem yes w) r (x :: st) → Wp (f_X12_holds_233 (f_X12_holds_11 (some am) (nI l) (nI m) yes n) (some am) (nI l) (nI m) yes (nI st.length) (nI k) (some (eAd E (1, 23, 0))) (nI st.length) (b2i x)) (E, D', I) Q := fun x hx => by
          unfold f_X12_holds_233
          refine wm_s hM st.length rfl (by show st.length < 64; omega) rfl (by decide) (by decide) (by omega) ?_
          rw [kp3, nI_1]
          exact go (x :: st) _ _ rfl (fun j hj => by rw [ds_row hj, hD j hj]) hwf ⟨ds_eq, Pil.ne st (fun i hi => ds_ne (by omega)) hp⟩ (by rw [List.length_cons]; omega) hx
        have rem : ∀ u, u < 2 ^ 31 → nI u - nI u / (100 : Int32) * (100 : Int32) = nI (u % 100) := fun u hu => pk_rem (d := 100) hu (by omega) (by omega)
        rcases hv with ⟨rfl, hv⟩ | ⟨rfl, hv⟩ | ⟨rfl, hv⟩
        · refine wp_pos ((nI_leI (a := 2) (by omega) (by omega)).mpr (by omega)) (wp_neg (fun e => by have := (nI_eq (b := 2) (by omega) (by omega)).mp e; omega) ?_)
          refine wm_R hM (by decide) (by decide) rfl ?_
          refine wp_neg (fun e => by have := (nI_leI (a := 200) (by omega) (by omega)).mp e; omega) ?_
          rw [rem _ (by omega), show (100 + v) % 100 = v by omega]
          refine wm_R hM (by decide) (by decide) rfl ?_
          refine wm_a hM v rfl (by show v < 20; omega) rfl (by decide) (by decide) (by omega) ?_
          refine wm_R hM (by decide) (by decide) rfl ?_
          refine wm_a hM m rfl (by show m < 60; omega) rfl (by decide) (by decide) (by omega) ?_
          rw [hD 33 (by omega), hD 6 (by omega)]
          have ee := ev_atom (atm := atmV mem yes w) (u := 100 + v) (by omega) (by omega) r st
          rw [atm_g (by omega)] at ee
          refine wp_ite (fun h => ?_) (fun h => ?_)
          · rw [(hmem v hv).mp h] at ee
            exact push false ee
          · rw [show mem v = true by
              cases hh : mem v with
              | true => rfl
              | false => exact absurd ((hmem v hv).mpr hh) h] at ee
            exact push true ee
        · refine wp_pos ((nI_leI (a := 2) (by omega) (by omega)).mpr (by omega)) (wp_neg (fun e => by have := (nI_eq (b := 2) (by omega) (by omega)).mp e; omega) ?_)
          refine wm_R hM (by decide) (by decide) rfl ?_
          refine wp_pos ((nI_leI (a := 200) (by omega) (by omega)).mpr (by omega)) (wp_neg (fun e => by have := (nI_leI (a := 300) (by omega) (by omega)).mp e; omega) ?_)
          rw [rem _ (by omega), show (200 + v) % 100 = v by omega, bt_sar _ (by omega)]
          have ee := ev_atom (atm := atmV mem yes w) (u := 200 + v) (by omega) (by omega) r st
          rw [atm_f (by omega)] at ee
          cases hb : bt yes v with
          | true => rw [hb] at ee; exact wp_pos rfl (push true ee)
          | false => rw [hb] at ee; exact wp_neg (by decide) (push false ee)
        · refine wp_pos ((nI_leI (a := 2) (by omega) (by omega)).mpr (by omega)) (wp_neg (fun e => by have := (nI_eq (b := 2) (by omega) (by omega)).mp e; omega) ?_)
          refine wm_R hM (by decide) (by decide) rfl ?_
          refine wp_pos ((nI_leI (a := 200) (by omega) (by omega)).mpr (by omega)) (wp_pos ((nI_leI (a := 300) (by omega) (by omega)).mpr (by omega)) ?_)
          refine wm_R hM (by decide) (by decide) rfl ?_
          refine wm_a hM m rfl (by show m < 60; omega) rfl (by decide) (by decide) (by omega) ?_
          rw [rem _ (by omega), show (300 + v) % 100 = v by omega, hD 4 (by omega)]
          refine wm_call hM (m_isBelow (nn := nn) (w := w) hM hnn (by omega) (by rw [hD 1 (by omega)]; exact hw) ?_)
          have ee := ev_atom (atm := atmV mem yes w) (u := 300 + v) (by omega) (by omega) r st
          rw [atm_n (by omega)] at ee
          by_cases hb : v ∈ w
          · rw [decide_eq_true hb] at ee
            rw [if_pos hb]
            exact push true ee
          · rw [decide_eq_false hb] at ee
            rw [if_neg hb]
            exact push false ee
end MD
