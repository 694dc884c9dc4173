section ML
variable {T : Nat → Option (Nat × Nat)} {G : Nat → Nat → Value} {nx z nW fu : Nat} {fi : Nat → Int32} {ar : Nat → Nat → Int32}
theorem m_has (hT : mT T z nW) {j : Nat} (hj : j < 24) : fX10_has fu (mw T G nx z fi ar) z (nI j) = some (if ar 4 j = 0 then 0 else 1, mw T G nx z fi ar) := by
  simp +decide only [fX10_has, Option.bind_some, bn2_s, zz_0, zz_1, if_true, if_false, ite_true, ite_false, vI_i, vR_n, vR_r, vR_v, reduceCtorEq, gI_m hT, gR_m hT, rcv_m hT, pV_m hT, aI_24 hT, sV_24 hT, aI_3 hT, sV_3 hT, aI_18 hT, sV_18 hT, aI_19 hT, sV_19 hT, aI_mZ hT, sV_mZ hT, ui_s, ui_n, ua_s, ua_k, hj]
  split <;> simp only [Option.bind_some, bn2_s, zz_0, zz_1, if_true, if_false, ite_true, ite_false, vI_i, vR_n, vR_r, vR_v, reduceCtorEq]
theorem m_bufferSize (hT : mT T z nW) {j : Nat} (hj : j < 24) : fX10_bufferSize fu (mw T G nx z fi ar) z (nI j) = some (if ar 6 j = 2 then ar 5 j else if ar 6 j = 4 then 24 else 0, mw T G nx z fi ar) := by
  simp +decide only [fX10_bufferSize, Option.bind_some, bn2_s, zz_0, zz_1, if_true, if_false, ite_true, ite_false, vI_i, vR_n, vR_r, vR_v, reduceCtorEq, gI_m hT, gR_m hT, rcv_m hT, pV_m hT, aI_24 hT, sV_24 hT, aI_3 hT, sV_3 hT, aI_18 hT, sV_18 hT, aI_19 hT, sV_19 hT, aI_mZ hT, sV_mZ hT, ui_s, ui_n, ua_s, ua_k, hj]
  split
  · simp only [Option.bind_some, bn2_s, zz_0, zz_1, if_true, if_false, ite_true, ite_false, vI_i, vR_n, vR_r, vR_v, reduceCtorEq]
  · split <;> simp only [Option.bind_some, bn2_s, zz_0, zz_1, if_true, if_false, ite_true, ite_false, vI_i, vR_n, vR_r, vR_v, reduceCtorEq]
theorem m_at (hT : mT T z nW) {j i : Nat} (hj : fi 20 = nI j) (hj2 : j < 24) {x : Int32} (hi : ar 9 j + x = nI i) (hi2 : i < nW) : fX10_at fu (mw T G nx z fi ar) z x = some (ar 3 i, mw T G nx z fi ar) := by
  simp +decide only [fX10_at, Option.bind_some, bn2_s, zz_0, zz_1, if_true, if_false, ite_true, ite_false, vI_i, vR_n, vR_r, vR_v, reduceCtorEq, gI_m hT, gR_m hT, rcv_m hT, pV_m hT, aI_24 hT, sV_24 hT, aI_3 hT, sV_3 hT, aI_18 hT, sV_18 hT, aI_19 hT, sV_19 hT, aI_mZ hT, sV_mZ hT, ui_s, ui_n, ua_s, ua_k, hj, hj2, hi, hi2]
theorem m_takesUp (hT : mT T z nW) {j : Nat} (hj : j < 24) : fX10_takesUp fu (mw T G nx z fi ar) z (nI j) = some ((), mw T G nx z (ui (ui (ui (ui (ui (ui (ui (ui (ui (ui (ui (ui fi 20 (nI j)) 21 (ar 5 j)) 22 (ar 19 (10 * j))) 23 (ar 19 (10 * j + 1))) 24 (ar 19 (10 * j + 2))) 25 (ar 19 (10 * j + 3))) 26 (ar 19 (10 * j + 4))) 27 (ar 19 (10 * j + 5))) 28 (ar 19 (10 * j + 6))) 29 (ar 19 (10 * j + 7))) 30 (ar 19 (10 * j + 8))) 31 (ar 19 (10 * j + 9))) ar) := by
  have h0 : 10 * j < 240 := by omega
  have h1 : 10 * j + 1 < 240 := by omega
  have h2 : 10 * j + 2 < 240 := by omega
  have h3 : 10 * j + 3 < 240 := by omega
  have h4 : 10 * j + 4 < 240 := by omega
  have h5 : 10 * j + 5 < 240 := by omega
  have h6 : 10 * j + 6 < 240 := by omega
  have h7 : 10 * j + 7 < 240 := by omega
  have h8 : 10 * j + 8 < 240 := by omega
  have h9 : 10 * j + 9 < 240 := by omega
  simp +decide only [fX10_takesUp, Option.bind_some, bn2_s, zz_0, zz_1, if_true, if_false, ite_true, ite_false, vI_i, vR_n, vR_r, vR_v, reduceCtorEq, gI_m hT, gR_m hT, rcv_m hT, pV_m hT, aI_24 hT, sV_24 hT, aI_3 hT, sV_3 hT, aI_18 hT, sV_18 hT, aI_19 hT, sV_19 hT, aI_mZ hT, sV_mZ hT, ui_s, ui_n, ua_s, ua_k, hj, nI_10, nI_ad1, nI_ad2, nI_ad3, nI_ad4, nI_ad5, nI_ad6, nI_ad7, nI_ad8, nI_ad9, h0, h1, h2, h3, h4, h5, h6, h7, h8, h9]
end ML
