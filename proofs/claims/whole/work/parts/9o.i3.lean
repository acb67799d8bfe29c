/-! ===== the start ===== -/
section SH
variable {E E' : Es} {I I' : Tg → Nat → Int32} {Z : Nat → Nat} {sz z : Nat}
theorem Ls0.lst {a b : Nat} (h : Ls0 E a b) (hz : Z0 I) (ha : a ≠ 2) (hx : ∀ t, t ∉ NL9 → eKd E t = 0) (hn : ∀ c, 0 < c → (a, b, c) ∉ NL9) : Lst E I a b 0 [] := ⟨h.1, hz _ _ (fun e => ha (congrArg (fun t : Tg => t.1) e)), Nat.le_refl _, by omega, fun _ => h.2, fun q => absurd rfl q, fun i t q => (by simp at q), fun c hc => hx _ (hn c hc)⟩
theorem GrpS.cg (h : GrpS E) (h4 : SamT 4 E I E' I') : GrpS E' := by
  unfold GrpS at h ⊢
  simp only [(h4 _ _).2.1, (h4 _ _).2.2.1, (h4 _ _).2.2.2.1 _]
  exact h
theorem TapS.cg (h : TapS E) (h5 : SamT 5 E I E' I') (h6 : SamT 6 E I E' I') : TapS E' := by
  unfold TapS at h ⊢
  simp only [(h5 _ _).2.1, (h5 _ _).2.2.1, (h5 _ _).2.2.2.1 _, (h6 _ _).2.1, (h6 _ _).2.2.1, (h6 _ _).2.2.2.1 _]
  exact h
theorem RowS.cg {r : Nat} (h : RowS E r) (h7 : SamT 7 E I E' I') (h10 : SamT 10 E I E' I') : RowS E' r := by
  unfold RowS at h ⊢
  simp only [(h7 _ _).2.1, (h7 _ _).2.2.1, (h7 _ _).2.2.2.1 _, (h10 _ _).2.1, (h10 _ _).2.2.1, (h10 _ _).2.2.2.1 _]
  exact h
theorem OutS.cg {r : Nat} (h : OutS E r) (h11 : SamT 11 E I E' I') : OutS E' r := by
  unfold OutS at h ⊢
  simp only [(h11 _ _).2.1, (h11 _ _).2.2.1, (h11 _ _).2.2.2.1 _]
  exact h
def D00 : Nat → Nat → Int32 := ds (ds (ds (fun _ _ => 0) 0 19 (-1)) 1 0 (-1)) 0 3 1
theorem D00_r {j : Nat} (h0 : j ≠ 0) (h1 : j ≠ 1) : D00 j = fun _ => 0 := by
  unfold D00
  rw [ds_row h0, ds_row h1, ds_row h0]
theorem D00_0 {k : Nat} (h0 : k ≠ 19) (h1 : k ≠ 3) : D00 0 k = 0 := by
  unfold D00
  rw [ds_ne (fun q => h1 q.2), ds_ne (fun q => absurd q.1 (by decide)), ds_ne (fun q => h0 q.2)]
theorem bt0 (i : Nat) : bt 0 i = false := by
  unfold bt
  exact BitVec.getLsbD_zero
theorem lb0 (i : Nat) : lb 0 i = false := by
  unfold lb
  exact BitVec.getLsbD_zero
theorem D00_DI : DI 256 D00 1 0 0 0 0 0 := by
  have z2 : D00 2 = fun _ => 0 := D00_r (by decide) (by decide)
  have z6 : D00 6 = fun _ => 0 := D00_r (by decide) (by decide)
  have z8 : D00 8 = fun _ => 0 := D00_r (by decide) (by decide)
  have z10 : D00 10 = fun _ => 0 := D00_r (by decide) (by decide)
  have z11 : D00 11 = fun _ => 0 := D00_r (by decide) (by decide)
  have z13 : D00 13 = fun _ => 0 := D00_r (by decide) (by decide)
  have z28 : D00 28 = fun _ => 0 := D00_r (by decide) (by decide)
  refine ⟨⟨by omega, rfl, fun i hi => ⟨[0], ?_⟩, by rw [z2]; exact fun _ => .inl rfl, by rw [z2]; exact fun _ _ => rfl⟩, ⟨by omega, rfl, fun m hm => by omega, fun m f hm => by omega⟩, ⟨by omega, rfl, by rw [z6]; exact fun _ g _ => bt0 g, by rw [z6]; exact fun _ _ => rfl, by rw [z8]; exact fun _ g _ => bt0 g, by rw [z8]; exact fun _ _ => rfl⟩, ⟨by omega, rfl, by rw [z10]; exact fun _ g _ => bt0 g, by rw [z10]; exact fun _ _ => rfl, by rw [z11]; exact fun _ _ => rfl, by rw [z13]; exact fun _ => .inl rfl⟩, ⟨by omega, rfl, ⟨rfl, by omega, by omega⟩, fun l hl => by omega, by rw [z28]; exact fun _ _ => rfl, fun k hk => by omega, List.nodup_nil, List.Pairwise.nil⟩, 0, by omega, rfl⟩
  have e : i = 0 := by omega
  subst e
  exact ⟨rfl, by omega, rfl⟩
theorem start_ok : Wp (f_start Z) (E00 (Z 0) sz, fun _ _ => 0, fun _ _ => 0) (fun r g => ∃ ax am ao E D I, g = (E, D, I) ∧ r = (some ax, some am, some ao) ∧ Fin9 Z ax am ao 0 E D I) := by
  unfold f_start
  refine wz_nO (2, 0, 0) (q := sz) rfl rfl rfl rfl rfl ?_
  refine wc_call (t := (2, 0, 0)) rfl rfl (c_init1 (fun E I hP => ?_))
  obtain ⟨⟨a0, a2, a3, a12⟩, ⟨t0, t1, t2, t3, t4, t5, t6, t7, t8, t9, t10, t11, t12, t13, t14, t15, t16⟩, hG, hTp, hR0, hR1, hO0, hO1, ⟨l3, l20, l21, l22, l80, l90, l81, l91, l13⟩, ⟨n1, n2, n3⟩, ⟨z0, i8, g0⟩, hx, hcu, hmc, hms⟩ := hP
  have x : ∀ a b c, (a, b, c) ∉ NL9 → eKd E (a, b, c) = 0 := fun a b c h => hx _ h
  have L3 : Lst E I 3 0 0 [] := l3.lst z0 (by decide) hx (fun c hc => by unfold NL9; simp; omega)
  refine wc_call (t := (3, 0, 0)) a3 l3.1 ?_
  refine l_add (ci := 9) (t := (12, 0, 0)) L3 rfl rfl a0 a3 a12 n1 (by simp) (by simp) (fun t ht => (by simp at ht)) (fun t ht => (by simp at ht)) (fun E1 I1 c' g1 g2 g3 g4 g5 => ?_)
  have s1 : ∀ a, Nat.beq a 3 = false → SamT a E I E1 I1 := fun a ha => SamT.agO g3 ha
  have c1 : eCu E1 = 256 := g4.2.2.1.trans hcu
  have b1 := g4.1
  have b2 := g4.2.1
  have g2 : c' ≤ 10 := by simp at g2; omega
  refine wp_mp (wp_nOm (fun _ => rfl) (by rw [(s1 1 rfl 0 0).2.1]; exact x _ _ _ (by unfold NL9; simp)) rfl ?_)
  have s2 : ∀ a, Nat.beq a 1 = false → SamT a E1 I1 (eNew E1 (1, 0, 0) 115 0 47) I1 := fun a ha b c => by
    have hm : ((a, b, c) : Tg) ≠ (1, 0, 0) := fun q => by
      have e : a = 1 := congrArg (fun t : Tg => t.1) q
      subst e; cases ha
    exact ⟨if_neg hm, if_neg hm, if_neg hm, fun _ => if_neg hm, fun _ => if_neg hm, fun _ => rfl⟩
  have hMB : MB (eNew E1 (1, 0, 0) 115 0 47) (eAd (eNew E1 (1, 0, 0) 115 0 47) (1, 0, 0)) [] := ⟨rfl, rfl, c1, fun j hj => (by simp at hj), fun j c hj _ => by
    have hm : ((1, j, c) : Tg) ≠ (1, 0, 0) := fun q => hj (congrArg (fun t : Tg => t.2.1) q)
    refine (if_neg hm).trans ?_
    show eKd E1 (1, j, c) = 0
    rw [(s1 1 rfl j c).2.1]
    exact x _ _ _ (by unfold NL9; simp)⟩
  have m1 : eMc (eNew E1 (1, 0, 0) 115 0 47) = eMc E1 + 1 := rfl
  have m2 : eMs (eNew E1 (1, 0, 0) 115 0 47) = eMs E1 + 47 := rfl
  show Wp (mb (mo 15 (some (eAd (eNew E1 (1, 0, 0) 115 0 47) (1, 0, 0))) (f_X12_init (some (eAd (eNew E1 (1, 0, 0) 115 0 47) (1, 0, 0))))) (fun _ => mb (nA 2 1) (fun o => mp (some sz, some (eAd (eNew E1 (1, 0, 0) 115 0 47) (1, 0, 0)), o)))) (eNew E1 (1, 0, 0) 115 0 47, fun _ _ => 0, I1) _
  generalize eAd (eNew E1 (1, 0, 0) 115 0 47) (1, 0, 0) = am at hMB ⊢
  generalize eNew E1 (1, 0, 0) 115 0 47 = E2 at s2 hMB m1 m2 ⊢
  refine wc_call (t := (1, 0, 0)) hMB.1 hMB.2.1 (m_init hMB (fun _ _ => rfl) (fun E3 hM3 s3 c3 m3 m4 => ?_))
  show Wp _ (E3, D00, I1) _
  have s13 : ∀ a, Nat.beq a 3 = false → Nat.beq a 1 = false → SamT a E I E3 I1 := fun a h3 h1 => ((s1 a h3).tr (s2 a h1)).tr (s3 a h1)
  refine wc_nA (19, 0, 0) (n := 1) rfl (by rw [(s13 19 rfl rfl 0 0).2.1]; exact x _ _ _ (by unfold NL9; simp)) rfl (by omega) rfl (by omega) (fun E4 I4 d4 q1 q2 q3 q4 q5 q6 q7 q8 => wp_mp ?_)
  have s4 : ∀ a, Nat.beq a 19 = false → SamT a E3 I1 E4 I4 := fun a ha => (d4 (fun u => Nat.beq u.1 19) rfl).sam (fun _ _ => ha)
  have sa : ∀ a, Nat.beq a 3 = false → Nat.beq a 1 = false → Nat.beq a 19 = false → SamT a E I E4 I4 := fun a h3 h1 h19 => (s13 a h3 h1).tr (s4 a h19)
  have u2 := sa 2 rfl rfl rfl
  have hS : ∀ a b, Nat.beq a 3 = false → Nat.beq a 1 = false → Nat.beq a 19 = false → a ≠ 2 → Ls0 E a b → (∀ c, 0 < c → (a, b, c) ∉ NL9) → Lst E4 I4 a b 0 [] := fun a b h3 h1 h19 h2 hl hn => (sa a h3 h1 h19).lst (hl.lst z0 h2 hx hn)
  have hCS : CScr E4 I4 := fun r hr => by
    rcases (show r = 0 ∨ r = 1 by omega) with rfl | rfl
    · exact ⟨⟨0, [], by omega, hS 8 0 rfl rfl rfl (by decide) l80 (fun c hc => by unfold NL9; simp; omega)⟩, 0, [], by omega, hS 9 0 rfl rfl rfl (by decide) l90 (fun c hc => by unfold NL9; simp; omega)⟩
    · exact ⟨⟨0, [], by omega, hS 8 1 rfl rfl rfl (by decide) l81 (fun c hc => by unfold NL9; simp; omega)⟩, 0, [], by omega, hS 9 1 rfl rfl rfl (by decide) l91 (fun c hc => by unfold NL9; simp; omega)⟩
  have cu4 : eCu E4 = 256 := q8.trans c3
  have hM4 : ModS E4 am := hM3.cg (s4 1 rfl) q8
  have L34 : Lst E4 I4 3 0 c' [(12, 0, 0)] := (((s2 3 rfl).tr (s3 3 rfl)).tr (s4 3 rfl)).lst g1
  have ab : ∀ a b c, Nat.beq a 3 = false → Nat.beq a 1 = false → Nat.beq a 19 = false → (a, b, c) ∉ NL9 → eKd E4 (a, b, c) = 0 := fun a b c h3 h1 h19 h => by rw [(sa a h3 h1 h19 b c).2.1]; exact x _ _ _ h
  have iz : ∀ a b c k, Nat.beq a 3 = false → Nat.beq a 1 = false → Nat.beq a 19 = false → (a, b, c) ≠ ((2, 0, 0) : Tg) → I4 (a, b, c) k = 0 := fun a b c k h3 h1 h19 h => by rw [(sa a h3 h1 h19 b c).2.2.2.2.2]; exact z0 _ _ h
  have hpl := pot_le hCS
  refine ⟨sz, am, eAd E4 (19, 0, 0), E4, D00, I4, rfl, rfl, 1, 0, 0, 0, 0, 0, ⟨⟨⟨⟨by rw [(sa 0 rfl rfl rfl 0 0).1]; exact a0, by rw [(u2 0 0).1]; exact a2, rfl⟩, ?_⟩, hG.cg (sa 4 rfl rfl rfl), hTp.cg (sa 5 rfl rfl rfl) (sa 6 rfl rfl rfl), fun r hr => ?_, fun r hr => ?_⟩, ⟨⟨⟨c', by omega, L34⟩, fun i hi => ?_, fun i hi => ⟨ab _ _ _ rfl rfl rfl (by unfold NL9; simp; omega), fun c => ab _ _ _ rfl rfl rfl (by unfold NL9; simp; omega)⟩⟩, ⟨⟨0, by omega, hS 20 0 rfl rfl rfl (by decide) l20 (fun c hc => by unfold NL9; simp; omega)⟩, fun i hi => by omega, fun i hi => ab _ _ _ rfl rfl rfl (by unfold NL9; simp)⟩, ⟨iz _ _ _ _ rfl rfl rfl (by simp), fun g m hg hm => ?_, fun g hg => ?_⟩, ⟨⟨0, by omega, hS 21 0 rfl rfl rfl (by decide) l21 (fun c hc => by unfold NL9; simp; omega)⟩, fun i hi => by omega, fun i hi c => ab _ _ _ rfl rfl rfl (by unfold NL9; simp), fun s hs => ?_⟩, ⟨⟨0, by omega, hS 22 0 rfl rfl rfl (by decide) l22 (fun c hc => by unfold NL9; simp; omega)⟩, fun i hi => by omega, fun i hi => ⟨ab _ _ _ rfl rfl rfl (by unfold NL9; simp), fun c => ab _ _ _ rfl rfl rfl (by unfold NL9; simp)⟩⟩, ⟨iz _ _ _ _ rfl rfl rfl (by simp), fun k hk => ?_, by rw [(u2 0 0).2.2.2.2.2]; exact i8⟩⟩, hCS, by rw [cu4]; exact D00_DI⟩, hM4, by omega, by omega, by omega, hpl⟩
  · rw [(u2 0 0).2.1, (u2 1 0).2.1, (u2 1 0).2.2.1, (u2 2 0).2.1, (u2 2 0).2.2.1]
    simp only [(u2 0 0).2.2.2.1]
    exact ⟨t0, t1, t2, t3, t4, t5, t6, t7, t8, t9, t10, t11, t12, t13, t14, ⟨t15, t16⟩, q1, q2⟩
  · rcases (show r = 0 ∨ r = 1 by omega) with rfl | rfl
    · exact hR0.cg (sa 7 rfl rfl rfl) (sa 10 rfl rfl rfl)
    · exact hR1.cg (sa 7 rfl rfl rfl) (sa 10 rfl rfl rfl)
  · rcases (show r = 0 ∨ r = 1 by omega) with rfl | rfl
    · exact hO0.cg (sa 11 rfl rfl rfl)
    · exact hO1.cg (sa 11 rfl rfl rfl)
  · have e : i = 0 := by omega
    subst e
    obtain ⟨e1, e2, e3, e4, e5, e6⟩ := sa 12 rfl rfl rfl 0 0
    exact ⟨e2.trans n1, iz _ _ _ _ rfl rfl rfl (by simp), (e4 1).trans n2, iz _ _ _ _ rfl rfl rfl (by simp), (e4 3).trans n3, 0, by omega, hS 13 0 rfl rfl rfl (by decide) l13 (fun c hc => by unfold NL9; simp; omega)⟩
  · rw [(sa 4 rfl rfl rfl 1 0).2.2.2.2.1, g0, lb0, D00_r (by decide) (by decide)]
    exact (bt0 g).symm
  · rw [iz _ _ _ _ rfl rfl rfl (by simp), D00_r (by decide) (by decide)]
  · rw [iz _ _ _ _ rfl rfl rfl (by simp), D00_r (by decide) (by decide)]
  · rw [iz _ _ _ _ rfl rfl rfl (by simp), D00_r (by decide) (by decide)]
end SH
