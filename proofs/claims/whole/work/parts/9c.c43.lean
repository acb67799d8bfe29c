/-! ===== the data of a new link ===== -/
section DG
variable {D D' : Nat → Nat → Int32} {cap cu nn nm ng ns nl nc n set o : Nat} {fo : Int32} {cs : List Int32}
theorem srt_get {so : Nat → Int32} {k : Nat} : (srt so nl)[k]? = if k < nl then some (so k).toNatClampNeg else none := by
  unfold srt
  rw [List.getElem?_map]
  by_cases h : k < nl
  · rw [if_pos h, List.getElem?_range' h, Option.map_some, Nat.one_mul, Nat.zero_add]
  · rw [if_neg h, List.getElem?_eq_none (by rw [List.length_range']; omega)]
    rfl
theorem srt_ins {so so' od : Nat → Int32} {order : Int32} {j : Nat} (hnl : nl < 2 ^ 31) (h : InsP so so' od nl order j) : srt so' (nl + 1) = (srt so nl).take j ++ nl :: (srt so nl).drop j := by
  obtain ⟨h1, h2, h3, h4, -⟩ := h
  have hlen : (srt so nl).length = nl := by unfold srt; rw [List.length_map, List.length_range']
  refine List.ext_getElem? (fun k => ?_)
  rw [srt_get]
  by_cases c1 : k < j
  · rw [if_pos (by omega), List.getElem?_append_left (by rw [List.length_take, hlen]; omega), List.getElem?_take, if_pos c1, srt_get, if_pos (by omega), h2 k c1]
  · rw [List.getElem?_append_right (by rw [List.length_take, hlen]; omega), List.length_take, hlen, Nat.min_eq_left h1]
    by_cases c2 : k = j
    · subst c2
      rw [if_pos (by omega), Nat.sub_self, h3, nI_clamp hnl]
      rfl
    · rw [show k - j = (k - 1 - j) + 1 by omega, List.getElem?_cons_succ, List.getElem?_drop, show j + (k - 1 - j) = k - 1 by omega, srt_get]
      by_cases c3 : k < nl + 1
      · rw [if_pos c3, if_pos (by omega), ← h4 (k - 1) (by omega) (by omega), show k - 1 + 1 = k by omega]
      · rw [if_neg c3, if_neg (by omega)]
/-- the places of the told order around the new link -/
theorem ins_ord (hD : DLnk cap D nn ng ns nl nc) (ho : o < 100) {j : Nat} (h : InsP (D 31) (D' 31) (D 26) nl (nI o) j) : (∀ l ∈ (srt (D 31) nl).take j, (D 26 l).toNatClampNeg ≤ o) ∧ ∀ l ∈ (srt (D 31) nl).drop j, o < (D 26 l).toNatClampNeg := by
  obtain ⟨h1, h2, h3, h4, h5, h6⟩ := h
  have hlen : (srt (D 31) nl).length = nl := srt_len
  have hlt := srt_lt hD.1 hD.2.2.2.2.2.1
  have od : ∀ l, l < nl → ∃ v, v < 100 ∧ D 26 l = nI v := fun l hl => (hD.2.2.2.1 l hl).2.2.1
  have hpw := hD.2.2.2.2.2.2.2
  refine ⟨fun l hl => ?_, fun l hl => ?_⟩
  · rcases h6 with rfl | h6
    · simp at hl
    · obtain ⟨k, hk⟩ := List.mem_iff_getElem?.mp hl
      rw [List.getElem?_take] at hk
      by_cases hkj : k < j
      · rw [if_pos hkj] at hk
        have hj : (srt (D 31) nl)[j - 1]? = some (D 31 (j - 1)).toNatClampNeg := by rw [srt_get, if_pos (by omega)]
        obtain ⟨v, hv, ev⟩ := od _ (hlt _ (List.mem_of_getElem? hj))
        have hv2 : v ≤ o := by
          rw [ev] at h6
          exact (nI_leI (by omega) (by omega)).mp h6
        by_cases e : k = j - 1
        · rw [e, hj] at hk
          have e2 := Option.some.inj hk
          rw [← e2, ev, nI_clamp (by omega)]
          exact hv2
        · have hk2 := List.getElem?_eq_some_iff.mp hk
          have hj2 := List.getElem?_eq_some_iff.mp hj
          obtain ⟨b1, b2⟩ := hk2
          obtain ⟨b3, b4⟩ := hj2
          have := List.pairwise_iff_getElem.mp hpw k (j - 1) b1 b3 (by omega)
          rw [b2, b4, ev, nI_clamp (by omega)] at this
          omega
      · rw [if_neg hkj] at hk
        cases hk
  · obtain ⟨k, hk⟩ := List.mem_iff_getElem?.mp hl
    rw [List.getElem?_drop, srt_get] at hk
    by_cases hlt2 : j + k < nl
    · rw [if_pos hlt2] at hk
      have e2 := Option.some.inj hk
      have h7 := h5 (j + k) (by omega) hlt2
      rw [e2] at h7
      obtain ⟨v, hv, ev⟩ := od l (hlt l (List.mem_of_mem_drop hl))
      rw [ev] at h7 ⊢
      rw [nI_clamp (by omega)]
      exact Nat.lt_of_not_le (fun q => h7 ((nI_leI (by omega) (by omega)).mpr q))
    · rw [if_neg hlt2] at hk
      cases hk
theorem cdl_eq {cd fr to cd' fr' to' : Nat → Int32} {l : Nat} (h1 : fr' l = fr l) (h2 : to' l = to l) (h3 : ∀ k, k < (to l).toNatClampNeg → cd' k = cd k) : cdl cd' fr' to' l = cdl cd fr to l := by
  unfold cdl
  rw [h1, h2]
  refine List.map_congr_left (fun i hi => h3 _ ?_)
  have := List.mem_range.mp hi
  omega
theorem cdl_new {cd fr to : Nat → Int32} {l : Nat} (hb : nc + cs.length < 2 ^ 31) (h1 : fr l = nI nc) (h2 : to l = nI (nc + cs.length)) (h3 : ∀ i y, cs[i]? = some y → cd (nc + i) = y) : cdl cd fr to l = cs := by
  unfold cdl
  rw [h1, h2, nI_clamp (by omega), nI_clamp hb, Nat.add_sub_cancel_left]
  refine List.ext_getElem? (fun i => ?_)
  rw [List.getElem?_map]
  by_cases hi : i < cs.length
  · rw [List.getElem?_range hi, Option.map_some, List.getElem?_eq_getElem hi, h3 i cs[i] (List.getElem?_eq_getElem hi)]
  · rw [List.getElem?_eq_none (by rw [List.length_range]; omega), List.getElem?_eq_none (by omega)]
    rfl
end DG
