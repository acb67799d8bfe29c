/-! ===== the class: bytes of the tape ===== -/
theorem byt_sh (v : Int32) {k : Nat} (hk : k ≤ 24) : Int8.toInt32 (Int32.toInt8 (jSh v (nI k))) = byt v k := by
  unfold byt
  congr 1
  refine Int8.toBitVec_inj.mp ?_
  rw [Int32.toBitVec_toInt8, Int32.toBitVec_toInt8]
  refine BitVec.eq_of_getLsbD_eq (fun i hi => ?_)
  have e : bt (jSh v (nI k)) i = bt (v >>> (nI k &&& 31)) i := by
    rw [b_sshr k (by omega) v (by omega), if_pos (by omega)]
    exact b_ushr k (by omega) v i
  unfold bt at e
  rw [BitVec.getLsbD_signExtend, BitVec.getLsbD_signExtend, decide_eq_true hi, if_pos (by omega), if_pos (by omega), e]
