/-! steps over literals -/
section
variable {code : Nat → ja_S} {C : ja_C} {r : ja_O × ja_w} {pc n : Nat} {L : ja_L} {st : List Value} {w : ja_w}
theorem jt_i2b {x : Int32} (e : code pc = js_i2b n) (h : ja_R code C r n L (.int x.toInt8.toInt32 :: st) w) : ja_R code C r pc L (.int x :: st) w := ja_sq e h
theorem jt_lds {i : Nat} (e : code pc = js_lds i n) (h : ja_R code C r n L (.ref (100 + i) :: st) w) : ja_R code C r pc L st w := ja_sq e h
theorem jt_gco {q : Nat} (e : code pc = js_gco n) (hq : ji_lk q = true) (h : ja_R code C r n L (.int 0 :: st) w) : ja_R code C r pc L (.ref q :: st) w := ja_sq e ⟨hq, h⟩
theorem jt_gva {q : Nat} (e : code pc = js_gva n) (hq : ji_lk q = true) (h : ja_R code C r n L (.ref (q + 100) :: st) w) : ja_R code C r pc L (.ref q :: st) w := ja_sq e ⟨hq, h⟩
theorem jt_sco (e : code pc = js_sco n) (h : ja_R code C r n L (.int 1 :: st) w) : ja_R code C r pc L st w := ja_sq e h
theorem jt_sfm (e : code pc = js_sfm n) (h1 : ja_R code C r n L (.ref 300 :: st) w) (h2 : ja_R code C r n L (.null :: st) w) : ja_R code C r pc L st w := ja_sq e ⟨h1, h2⟩
theorem jt_bal {i : Int32} {q : Nat} (e : code pc = js_bal n) (hq : ji_vk q = true) (hi : vp_in i (ji_len.getD (q - 200) 0)) (h : ja_R code C r n L (.int ((ji_byt.getD (q - 200) []).getD i.toNatClampNeg 0) :: st) w) : ja_R code C r pc L (.int i :: .ref q :: st) w := ja_sq e ⟨hq, hi, h⟩
theorem jt_alk {q : Nat} (e : code pc = js_alk n) (hq : ji_vk q = true) (h : ja_R code C r n L (.int (Int32.ofNat (ji_len.getD (q - 200) 0)) :: st) w) : ja_R code C r pc L (.ref q :: st) w := ja_sq e ⟨hq, h⟩
end
