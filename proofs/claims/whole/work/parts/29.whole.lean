/-! ===== the law from its entry, given the pure side ===== -/
set_option maxHeartbeats 4000000 in
set_option maxRecDepth 100000 in
theorem whole_startP (P : PureOK) {p : Program} {e : Env} {s : State} {m : MethodId} {below : List Frame} {meth : Method} {c : Code} (l : Launch) (htr : l.stackTraces = false) {b L : Nat} {xs : Nat → Int32} (hL : L ≤ 3072) (C0 : lw_At p s m meth c b L xs) : W p l e room_1 s m #[Value.ref b] below meth c s.heap [] 0 0 (lw_Z below #[Value.ref b] s) (entryFrame m ([Value.ref b] : List Value).toArray 7) := by
  obtain ⟨hx, hb, hr, hml, hown, hts, hX, hbl, hlocks, hgv⟩ := id C0
  have hA : ∀ q : Nat, s.heap.size ≤ q → (fun q : Nat => s.heap.size ≤ q) q := fun _ h => h
  have hbA : ¬ (fun q : Nat => s.heap.size ≤ q) b := Nat.not_le.mpr hbl
  obtain ⟨D, hD⟩ := en_cls hts
  obtain ⟨cy, hcy⟩ := en_arrs hts
  obtain ⟨Z, hZ⟩ := en_ZS (A := fun q : Nat => s.heap.size ≤ q) hts hgv (fun a ha => Nat.not_le.mpr ha)
  have hb' : c.code = cL_law_ := hb
  have cx : Cx (p, l, e, room_1, s, m, #[Value.ref b], below, meth, c, D, cy, (fun q : Nat => s.heap.size ≤ q), Z) cL_law_ RL 7 := ⟨hx, hb', hml, hown, en_tb hts, ⟨hD, hcy⟩, hA, hlocks, hZ⟩
  have hl := lv_entry ([.ref b]) (n := 7) (Nat.le_of_ble_eq_true rfl)
  rw [lg_entry_eq]
  generalize (lg_sl ([.ref b]) ++ List.replicate (7 - (lg_sl ([.ref b])).length) Slot.unset).toArray = ls at hl ⊢
  have hl : lv_has ls 7 [(0, va_rf (some b))] := hl
  have hend : ∀ lv (Ψ : Hs → Nat → Nat → Prop), SimB (p, l, e, room_1, s, m, #[Value.ref b], below, meth, c, D, cy, (fun q : Nat => s.heap.size ≤ q), Z) 7 (lw_Z below #[Value.ref b] s) 2002 lv [] Ψ := by
    intro lv Ψ
    refine sb_ofb (fun a9 b9 => ?_)
    refine sm_iconst (v := 1) cx dL_law__2002 (by decide) ?_
    refine sb_gob ?_ a9 b9
    refine sb_mk fun h c0 n0 hp hc hn H locs ls hH hS hl => ?_
    refine va_forget (fun q hq => hS.2.2 q hq) ?_
    refine W.widen (k := 601024) (n := 7293034) hc hn ?_
    exact lw_ret hx hb hr hlocks (by decide +kernel)
  have key := law_run P cx htr (by decide : 74 ≤ room_1.frames) (by decide : 1500 ≤ room_1.locals) rfl rfl hX hbl hbA hL s.heap.size (en_zok hZ) hend
  exact sb_use key (h := (fun _ => none, s.heap.size)) (c0 := 0) (n0 := 0) ⟨rfl, rfl, rfl⟩ (Nat.zero_le _) (Nat.zero_le _) ⟨rfl, fun q x hq => by cases hq⟩ va_S.rf hl
