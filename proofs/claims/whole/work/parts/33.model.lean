/-! ===== the model's object in the picture ===== -/
/-- kinds and lengths of the model's rows, by field -/
def mKd (j : Nat) : Nat := [0, 2, 4, 0, 2, 2, 2, 0, 2, 0, 2, 2, 0, 2, 1, 0, 0, 0, 0, 0, 0, 2, 0, 4, 2, 2, 2, 4, 4, 2, 2, 2, 0, 2, 2, 2, 0, 2, 0, 0, 2, 0, 0, 0, 2, 0, 0].getD j 0
def mLn (j : Nat) : Nat := [0, 60, 60, 0, 60, 480, 60, 0, 20, 0, 40, 480, 0, 12, 200, 0, 0, 0, 0, 0, 0, 0, 0, 64, 100, 100, 100, 100, 100, 100, 100, 100, 0, 20, 60, 100, 0, 100, 0, 0, 100, 0, 0, 0, 29520, 0, 0].getD j 0
def ModS (E : Es) (am : Nat) : Prop := eAd E (1, 0, 0) = am ∧ eKd E (1, 0, 0) = 115 ∧ (∀ j, mKd j ≠ 0 → j ≠ 21 → eRf E (1, 0, 0) j = some (1, j, 0) ∧ eKd E (1, j, 0) = mKd j ∧ eLn E (1, j, 0) = mLn j) ∧ eRf E (1, 0, 0) 21 = some (1, 21, eCu E) ∧ eKd E (1, 21, eCu E) = 2 ∧ eLn E (1, 21, eCu E) = eCu E ∧ 256 ≤ eCu E ∧ (∀ c, eCu E < c → eKd E (1, 21, c) = 0)
section WM
variable {α β : Type} {E : Es} {D : Nat → Nat → Int32} {I : Tg → Nat → Int32} {Q : α → Gh → Prop} {am : Nat}
theorem wm_I (hM : ModS E am) {k : Nat} {K : Int32 → Mo α} (hty : (p_ty 15)[k]? = some 0) (kk : Wp (K (D 0 k)) (E, D, I) Q) : Wp (mb (gI 15 k (some am)) K) (E, D, I) Q := by
  obtain ⟨rfl, hk, -⟩ := hM
  exact wp_gI (g := (E, D, I)) (t := (1, 0, 0)) hk hty kk
theorem wm_call (hM : ModS E am) {x : Mo β} {K : β → Mo α} (kk : Wp x (E, D, I) (fun r g' => Wp (K r) g' Q)) : Wp (mb (mo 15 (some am) x) K) (E, D, I) Q := by
  obtain ⟨rfl, hk, -⟩ := hM
  exact wp_mb (wp_mo (g := (E, D, I)) (t := (1, 0, 0)) hk kk)
theorem wm_R (hM : ModS E am) {j : Nat} {K : Option Nat → Mo α} (hj : mKd j ≠ 0) (h21 : j ≠ 21) (hty : (p_ty 15)[j]? = some 1) (kk : Wp (K (some (eAd E (1, j, 0)))) (E, D, I) Q) : Wp (mb (gR 15 j (some am)) K) (E, D, I) Q := by
  obtain ⟨rfl, hk, hR, -⟩ := hM
  refine wp_gR (g := (E, D, I)) (t := (1, 0, 0)) hk hty ?_
  show Wp (K ((eRf E (1, 0, 0) j).map (eAd E))) _ _
  rw [(hR j hj h21).1]
  exact kk
theorem wm_Rk (hM : ModS E am) {K : Option Nat → Mo α} (kk : Wp (K (some (eAd E (1, 21, eCu E)))) (E, D, I) Q) : Wp (mb (gR 15 21 (some am)) K) (E, D, I) Q := by
  obtain ⟨rfl, hk, -, hR, -⟩ := hM
  refine wp_gR (g := (E, D, I)) (t := (1, 0, 0)) hk rfl ?_
  show Wp (K ((eRf E (1, 0, 0) 21).map (eAd E))) _ _
  rw [hR]
  exact kk
theorem wm_a (hM : ModS E am) {j u : Nat} {i : Int32} {K : Int32 → Mo α} (k : Nat) (hi : i = nI k) (hk : k < mLn j) (hj : mKd j = u + 1) (h21 : j ≠ 21) (hu : u = 0 ∨ u = 1 ∨ u = 3) (hb : k < 2 ^ 31) (kk : Wp (K (D j k)) (E, D, I) Q) : Wp (mb (aI u (some (eAd E (1, j, 0))) i) K) (E, D, I) Q := by
  obtain ⟨rfl, -, hR, -⟩ := hM
  subst hi
  obtain ⟨h1, h2, h3⟩ := hR j (by omega) h21
  have hc : (nI k).toNatClampNeg = k := nI_clamp hb
  refine wp_aI (g := (E, D, I)) (t := (1, j, 0)) (by show eKd E _ = _; rw [h2, hj]) hu (nI_pos hb) (by rw [hc]; show k < eLn E _; rw [h3]; exact hk) ?_
  rw [hc, p_iv_i (p_im_m h21)]
  exact kk
theorem wm_ak (hM : ModS E am) {i : Int32} {K : Int32 → Mo α} (k : Nat) (hi : i = nI k) (hk : k < eCu E) (hb : k < 2 ^ 31) (kk : Wp (K (D 21 k)) (E, D, I) Q) : Wp (mb (aI 1 (some (eAd E (1, 21, eCu E))) i) K) (E, D, I) Q := by
  obtain ⟨rfl, -, -, hR, h2, h3, h4, h5⟩ := hM
  subst hi
  have hc : (nI k).toNatClampNeg = k := nI_clamp hb
  refine wp_aI (g := (E, D, I)) (t := (1, 21, eCu E)) h2 (.inr (.inl rfl)) (nI_pos hb) (by rw [hc]; show k < eLn E _; rw [h3]; exact hk) ?_
  rw [hc, p_iv_i p_im_k]
  exact kk
theorem wm_P (hM : ModS E am) {k : Nat} {v : Int32} {K : Unit → Mo α} (hty : (p_ty 15)[k]? = some 0) (kk : Wp (K ()) (E, ds D 0 k v, I) Q) : Wp (mb (pV 15 k (some am) (.int v)) K) (E, D, I) Q := by
  obtain ⟨rfl, hk, -⟩ := hM
  refine p_putW (g := (E, D, I)) (g' := (E, ds D 0 k v, I)) (t := (1, 0, 0)) hk hty (by omega) rfl rfl rfl rfl (fun u j h => p_iv_ds (t := (1, 0, 0)) (p_im_m (by omega)) h) (fun _ _ _ => rfl) (fun _ _ _ => rfl) (fun u hu => .inl hu) ?_ rfl rfl kk
  show Value.int (p_iv (E, ds D 0 k v, I) (1, 0, 0) k) = _
  rw [p_iv_i (p_im_m (by omega))]
  show Value.int (ds D 0 k v 0 k) = _
  rw [ds_eq]
theorem wm_s (hM : ModS E am) {j u : Nat} {i x : Int32} {K : Unit → Mo α} (k : Nat) (hi : i = nI k) (hk : k < mLn j) (hj : mKd j = u + 1) (h21 : j ≠ 21) (hu : u = 0 ∨ u = 1 ∨ u = 3) (hb : k < 2 ^ 31) (kk : Wp (K ()) (E, ds D j k (kp u x), I) Q) : Wp (mb (sI u (some (eAd E (1, j, 0))) i x) K) (E, D, I) Q := by
  obtain ⟨rfl, -, hR, -⟩ := hM
  subst hi
  obtain ⟨h1, h2, h3⟩ := hR j (by omega) h21
  have hc : (nI k).toNatClampNeg = k := nI_clamp hb
  refine p_sIW (g := (E, D, I)) (g' := (E, ds D j k (kp u x), I)) (t := (1, j, 0)) (by show eKd E _ = _; rw [h2, hj]) hu (nI_pos hb) (by rw [hc]; show k < eLn E _; rw [h3]; exact hk) rfl (fun w y h => p_iv_ds (t := (1, j, 0)) (p_im_m h21) (by rw [hc] at h; exact h)) ?_ kk
  rw [hc, p_iv_i (p_im_m h21)]
  exact ds_eq
theorem wm_sk (hM : ModS E am) {i x : Int32} {K : Unit → Mo α} (k : Nat) (hi : i = nI k) (hk : k < eCu E) (hb : k < 2 ^ 31) (kk : Wp (K ()) (E, ds D 21 k x, I) Q) : Wp (mb (sI 1 (some (eAd E (1, 21, eCu E))) i x) K) (E, D, I) Q := by
  obtain ⟨rfl, -, -, hR, h2, h3, h4, h5⟩ := hM
  subst hi
  have hc : (nI k).toNatClampNeg = k := nI_clamp hb
  refine p_sIW (g := (E, D, I)) (g' := (E, ds D 21 k x, I)) (t := (1, 21, eCu E)) h2 (.inr (.inl rfl)) (nI_pos hb) (by rw [hc]; show k < eLn E _; rw [h3]; exact hk) rfl (fun w y h => p_iv_ds (t := (1, 21, eCu E)) p_im_k (by rw [hc] at h; exact h)) ?_ kk
  rw [hc, p_iv_i p_im_k]
  exact ds_eq
end WM
