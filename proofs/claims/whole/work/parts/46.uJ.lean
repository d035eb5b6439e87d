/-! J: its methods as functions (by wip/whole/dec.py) -/
set_option maxHeartbeats 1000000 in
set_option maxRecDepth 100000 in
noncomputable def Str_isLatin1 (v0 : Nat) (h : am_H) : Option Int32 := if v0 < 11 then if (1 : Int32) = (0 : Int32) then some (0 : Int32) else (strO v0).bind fun u3 => if (0 : Int32) = (0 : Int32) then some (1 : Int32) else some (0 : Int32) else none
set_option maxHeartbeats 1000000 in
set_option maxRecDepth 100000 in
theorem Str_isLatin1_s {v0 : Nat} {h : am_H} {r : Int32} (hb : Str_isLatin1 v0 h = some r) : Sx 0 mJ0_isLatin1_aae02 0 (am_en [am_s v0] 1) [] h (some (.int r)) h := by
  unfold Str_isLatin1 at hb
  have hb := (iz hb).2
  show Sx 0 mJ0_isLatin1_aae02 0 [am_s v0] [] h (some (.int r)) h
  refine Sx.o (fun _ _ _ k => ex_getsC gJ0_38 dJ0_isLatin1_aae02_0 k) ?_
  refine Sx.b (fun _ _ _ k1 k2 => ex_if_eq 17 dJ0_isLatin1_aae02_3 (by decide) k1 k2) (fun q => ?_) (fun q => ?_)
  · have hb1 := ip q hb
    refine Sx.o (fun _ _ _ k => op_iconst (0 : Int32) dJ0_isLatin1_aae02_17 (by decide) k) ?_
    obtain rfl := Option.some.inj hb1
    exact Sx.r (fun _ _ _ k => ex_zret rfl rfl dJ0_isLatin1_aae02_18 k)
  · have hb2 := iq q hb
    refine Sx.o (fun _ _ _ k => ex_aload_n dJ0_isLatin1_aae02_6 rfl rfl k) ?_
    obtain ⟨u3, e_u3, hb4⟩ := ob2 hb2
    refine Sx.o (fun _ _ _ k => ex_scod (strO_s e_u3) gJ0_15 dJ0_isLatin1_aae02_7 k) ?_
    refine Sx.bn (fun _ _ _ k1 k2 => ex_if_ne 17 dJ0_isLatin1_aae02_10 (by decide) k1 k2) (fun q => ?_) (fun q => ?_)
    · have hb5 := iq q hb4
      refine Sx.o (fun _ _ _ k => op_iconst (0 : Int32) dJ0_isLatin1_aae02_17 (by decide) k) ?_
      obtain rfl := Option.some.inj hb5
      exact Sx.r (fun _ _ _ k => ex_zret rfl rfl dJ0_isLatin1_aae02_18 k)
    · have hb6 := ip q hb4
      refine Sx.o (fun _ _ _ k => op_iconst (1 : Int32) dJ0_isLatin1_aae02_13 (by decide) k) ?_
      refine Sx.o (fun _ _ _ k => ex_goto 18 dJ0_isLatin1_aae02_14 (by decide) k) ?_
      obtain rfl := Option.some.inj hb6
      exact Sx.r (fun _ _ _ k => ex_zret rfl rfl dJ0_isLatin1_aae02_18 k)
theorem Str_isLatin1_o {v0 : Nat} {h : am_H} {r : Int32} (hb : Str_isLatin1 v0 h = some r) : v0 < 11 := by
  unfold Str_isLatin1 at hb
  exact (iz hb).1
set_option maxHeartbeats 1000000 in
set_option maxRecDepth 100000 in
noncomputable def Pre_checkIndex_9 (v0 : Int32) (v1 : Int32) (h : am_H) : Option Int32 := none
set_option maxHeartbeats 1000000 in
set_option maxRecDepth 100000 in
theorem Pre_checkIndex_9_s {v0 : Int32} {v1 : Int32} {h : am_H} {r : Int32} (hb : Pre_checkIndex_9 v0 v1 h = some r) : Sx 0 mJ3_checkIndex_8e157 9 [.int v0, .int v1, .float 2] [] h (some (.int r)) h := by
  unfold Pre_checkIndex_9 at hb
  refine Sx.o (fun _ _ _ k => ex_aload_n dJ3_checkIndex_8e157_9 rfl rfl k) ?_
  refine Sx.o (fun _ _ _ k => ex_iload_n dJ3_checkIndex_8e157_10 rfl k) ?_
  refine Sx.o (fun _ _ _ k => ex_iload_n dJ3_checkIndex_8e157_11 rfl k) ?_
  exact nomatch hb
set_option maxHeartbeats 1000000 in
set_option maxRecDepth 100000 in
noncomputable def Pre_checkIndex (v0 : Int32) (v1 : Int32) (h : am_H) : Option Int32 := if v0 < (0 : Int32) then Pre_checkIndex_9 v0 v1 h else if v0 < v1 then some v0 else Pre_checkIndex_9 v0 v1 h
set_option maxHeartbeats 1000000 in
set_option maxRecDepth 100000 in
theorem Pre_checkIndex_s {v0 : Int32} {v1 : Int32} {h : am_H} {r : Int32} (hb : Pre_checkIndex v0 v1 h = some r) : Sx 0 mJ3_checkIndex_8e157 0 (am_en [.int v0, .int v1, .float 2] 3) [] h (some (.int r)) h := by
  unfold Pre_checkIndex at hb
  show Sx 0 mJ3_checkIndex_8e157 0 [.int v0, .int v1, .float 2] [] h (some (.int r)) h
  refine Sx.o (fun _ _ _ k => ex_iload_n dJ3_checkIndex_8e157_0 rfl k) ?_
  refine Sx.b (fun _ _ _ k1 k2 => ex_if_lt 9 dJ3_checkIndex_8e157_1 (by decide) k1 k2) (fun q => ?_) (fun q => ?_)
  · have hb1 := ip q hb
    exact Pre_checkIndex_9_s hb1
  · have hb2 := iq q hb
    refine Sx.o (fun _ _ _ k => ex_iload_n dJ3_checkIndex_8e157_4 rfl k) ?_
    refine Sx.o (fun _ _ _ k => ex_iload_n dJ3_checkIndex_8e157_5 rfl k) ?_
    refine Sx.b (fun _ _ _ k1 k2 => ex_icmp_lt 16 dJ3_checkIndex_8e157_6 (by decide) k1 k2) (fun q => ?_) (fun q => ?_)
    · have hb3 := ip q hb2
      refine Sx.o (fun _ _ _ k => ex_iload_n dJ3_checkIndex_8e157_16 rfl k) ?_
      obtain rfl := Option.some.inj hb3
      exact Sx.r (fun _ _ _ k => ex_iret rfl dJ3_checkIndex_8e157_17 k)
    · have hb4 := iq q hb2
      exact Pre_checkIndex_9_s hb4
set_option maxHeartbeats 1000000 in
set_option maxRecDepth 100000 in
noncomputable def Str_checkIndex (v0 : Int32) (v1 : Int32) (h : am_H) : Option Unit := (Pre_checkIndex v0 v1 h).bind fun x1 => some ()
set_option maxHeartbeats 1000000 in
set_option maxRecDepth 100000 in
theorem Str_checkIndex_s {v0 : Int32} {v1 : Int32} {h : am_H} {r : Unit} (hb : Str_checkIndex v0 v1 h = some r) : Sx 1 mJ0_checkIndex_df160 0 (am_en [.int v0, .int v1] 2) [] h none h := by
  unfold Str_checkIndex at hb
  show Sx 1 mJ0_checkIndex_df160 0 [.int v0, .int v1] [] h none h
  refine Sx.o (fun _ _ _ k => ex_iload_n dJ0_checkIndex_df160_0 rfl k) ?_
  refine Sx.o (fun _ _ _ k => ex_iload_n dJ0_checkIndex_df160_1 rfl k) ?_
  refine Sx.o (fun _ _ _ k => ex_getsF gJ0_1053 dJ0_checkIndex_df160_2 k) ?_
  obtain ⟨x1, e_x1, hb2⟩ := ob2 hb
  refine sx_callS (dc := 0) (as := [.int v0, .int v1, .float 2]) (stq := [.int x1]) (by omega) dJ0_checkIndex_df160_5 MJ3_checkIndex_8e157 kJ0_1059 tJ3_checkIndex_8e157 rfl rfl (Nat.le_of_ble_eq_true rfl) (Nat.le_of_ble_eq_true rfl) (Pre_checkIndex_s e_x1) rfl ?_
  refine Sx.o (fun _ _ _ k => ex_pop dJ0_checkIndex_df160_8 rfl k) ?_
  obtain rfl := Option.some.inj hb2
  exact Sx.r (fun _ _ _ k => ex_vret rfl dJ0_checkIndex_df160_9 k)
set_option maxHeartbeats 1000000 in
set_option maxRecDepth 100000 in
noncomputable def Lat_charAt (v0 : Nat) (v1 : Int32) (h : am_H) : Option Int32 := (strL v0).bind fun x1 => (Str_checkIndex v1 x1 h).bind fun x3 => (strB v0 v1).bind fun x5 => (nr .char ((Int32.toUInt32 (x5 &&& (255 : Int32)) % 65536).toInt32)).bind fun u7 => some ((Int32.toUInt32 (x5 &&& (255 : Int32)) % 65536).toInt32)
set_option maxHeartbeats 1000000 in
set_option maxRecDepth 100000 in
theorem Lat_charAt_s {v0 : Nat} {v1 : Int32} {h : am_H} {r : Int32} (hb : Lat_charAt v0 v1 h = some r) : Sx 2 mJ1_charAt_3b067 0 (am_en [am_sb v0, .int v1] 2) [] h (some (.int r)) h := by
  unfold Lat_charAt at hb
  show Sx 2 mJ1_charAt_3b067 0 [am_sb v0, .int v1] [] h (some (.int r)) h
  refine Sx.o (fun _ _ _ k => ex_iload_n dJ1_charAt_3b067_0 rfl k) ?_
  refine Sx.o (fun _ _ _ k => ex_aload_n dJ1_charAt_3b067_1 rfl rfl k) ?_
  obtain ⟨x1, e_x1, hb2⟩ := ob2 hb
  refine Sx.o (fun _ _ _ k => op_sbLen dJ1_charAt_3b067_2 e_x1 k) ?_
  obtain ⟨x3, e_x3, hb4⟩ := ob2 hb2
  refine sx_callS (dc := 1) (as := [.int v1, .int x1]) (stq := []) (by omega) dJ1_charAt_3b067_3 MJ0_checkIndex_df160 kJ1_9 tJ0_checkIndex_df160 rfl rfl (Nat.le_of_ble_eq_true rfl) (Nat.le_of_ble_eq_true rfl) (Str_checkIndex_s e_x3) rfl ?_
  refine Sx.o (fun _ _ _ k => ex_aload_n dJ1_charAt_3b067_6 rfl rfl k) ?_
  refine Sx.o (fun _ _ _ k => ex_iload_n dJ1_charAt_3b067_7 rfl k) ?_
  obtain ⟨x5, e_x5, hb6⟩ := ob2 hb4
  refine Sx.o (fun _ _ _ k => op_sbAt dJ1_charAt_3b067_8 e_x5 k) ?_
  refine Sx.o (fun _ _ _ k => op_sipush (255 : Int32) dJ1_charAt_3b067_9 (by decide) k) ?_
  refine Sx.o (fun _ _ _ k => ex_iand dJ1_charAt_3b067_12 k) ?_
  refine Sx.o (fun _ _ _ k => ex_i2c dJ1_charAt_3b067_13 k) ?_
  obtain ⟨u7, e_u7, hb8⟩ := ob2 hb6
  obtain rfl := Option.some.inj hb8
  exact Sx.r (fun _ _ _ k => ex_zret rfl (nr_n e_u7) dJ1_charAt_3b067_14 k)
set_option maxHeartbeats 1000000 in
set_option maxRecDepth 100000 in
noncomputable def Str_charAt (v0 : Nat) (v1 : Int32) (h : am_H) : Option Int32 := if v0 < 11 then (Str_isLatin1 v0 h).bind fun x1 => if x1 = (0 : Int32) then (strO v0).bind fun u5 => none else (strO v0).bind fun u7 => (Lat_charAt v0 v1 h).bind fun x9 => (nr .char x9).bind fun u11 => some x9 else none
set_option maxHeartbeats 1000000 in
set_option maxRecDepth 100000 in
theorem Str_charAt_s {v0 : Nat} {v1 : Int32} {h : am_H} {r : Int32} (hb : Str_charAt v0 v1 h = some r) : Sx 3 mJ0_charAt_5068e 0 (am_en [am_s v0, .int v1] 2) [] h (some (.int r)) h := by
  unfold Str_charAt at hb
  have hb := (iz hb).2
  show Sx 3 mJ0_charAt_5068e 0 [am_s v0, .int v1] [] h (some (.int r)) h
  refine Sx.o (fun _ _ _ k => ex_aload_n dJ0_charAt_5068e_0 rfl rfl k) ?_
  obtain ⟨x1, e_x1, hb2⟩ := ob2 hb
  refine sx_callX (as := []) (stq := [.int x1]) (Str_isLatin1_o e_x1) (by omega) dJ0_charAt_5068e_1 MJ0_isLatin1_aae02 kJ0_492 iJ0_isLatin1_aae02 sJ0_isLatin1_aae02 rfl rfl rfl (Nat.le_of_ble_eq_true rfl) (Nat.le_of_ble_eq_true rfl) (Str_isLatin1_s e_x1) rfl ?_
  refine Sx.b (fun _ _ _ k1 k2 => ex_if_eq 16 dJ0_charAt_5068e_4 (by decide) k1 k2) (fun q => ?_) (fun q => ?_)
  · have hb3 := ip q hb2
    refine Sx.o (fun _ _ _ k => ex_aload_n dJ0_charAt_5068e_16 rfl rfl k) ?_
    obtain ⟨u5, e_u5, hb6⟩ := ob2 hb3
    refine Sx.o (fun _ _ _ k => ex_sval (strO_s e_u5) gJ0_9 dJ0_charAt_5068e_17 k) ?_
    refine Sx.o (fun _ _ _ k => ex_iload_n dJ0_charAt_5068e_20 rfl k) ?_
    exact nomatch hb6
  · have hb4 := iq q hb2
    refine Sx.o (fun _ _ _ k => ex_aload_n dJ0_charAt_5068e_7 rfl rfl k) ?_
    obtain ⟨u7, e_u7, hb8⟩ := ob2 hb4
    refine Sx.o (fun _ _ _ k => ex_sval (strO_s e_u7) gJ0_9 dJ0_charAt_5068e_8 k) ?_
    refine Sx.o (fun _ _ _ k => ex_iload_n dJ0_charAt_5068e_11 rfl k) ?_
    obtain ⟨x9, e_x9, hb10⟩ := ob2 hb8
    refine sx_callS (dc := 2) (as := [am_sb v0, .int v1]) (stq := [.int x9]) (by omega) dJ0_charAt_5068e_12 MJ1_charAt_3b067 kJ0_495 tJ1_charAt_3b067 rfl rfl (Nat.le_of_ble_eq_true rfl) (Nat.le_of_ble_eq_true rfl) (Lat_charAt_s e_x9) rfl ?_
    obtain ⟨u11, e_u11, hb12⟩ := ob2 hb10
    obtain rfl := Option.some.inj hb12
    exact Sx.r (fun _ _ _ k => ex_zret rfl (nr_n e_u11) dJ0_charAt_5068e_15 k)
theorem Str_charAt_o {v0 : Nat} {v1 : Int32} {h : am_H} {r : Int32} (hb : Str_charAt v0 v1 h = some r) : v0 < 11 := by
  unfold Str_charAt at hb
  exact (iz hb).1
set_option maxHeartbeats 1000000 in
set_option maxRecDepth 100000 in
noncomputable def Str_coder (v0 : Nat) (h : am_H) : Option Int32 := if v0 < 11 then if (1 : Int32) = (0 : Int32) then (nr .byte (1 : Int32)).bind fun u3 => some (1 : Int32) else (strO v0).bind fun u5 => (nr .byte (0 : Int32)).bind fun u7 => some (0 : Int32) else none
set_option maxHeartbeats 1000000 in
set_option maxRecDepth 100000 in
theorem Str_coder_s {v0 : Nat} {h : am_H} {r : Int32} (hb : Str_coder v0 h = some r) : Sx 0 mJ0_coder_7d493 0 (am_en [am_s v0] 1) [] h (some (.int r)) h := by
  unfold Str_coder at hb
  have hb := (iz hb).2
  show Sx 0 mJ0_coder_7d493 0 [am_s v0] [] h (some (.int r)) h
  refine Sx.o (fun _ _ _ k => ex_getsC gJ0_38 dJ0_coder_7d493_0 k) ?_
  refine Sx.b (fun _ _ _ k1 k2 => ex_if_eq 13 dJ0_coder_7d493_3 (by decide) k1 k2) (fun q => ?_) (fun q => ?_)
  · have hb1 := ip q hb
    refine Sx.o (fun _ _ _ k => op_iconst (1 : Int32) dJ0_coder_7d493_13 (by decide) k) ?_
    obtain ⟨u3, e_u3, hb4⟩ := ob2 hb1
    obtain rfl := Option.some.inj hb4
    exact Sx.r (fun _ _ _ k => ex_zret rfl (nr_n e_u3) dJ0_coder_7d493_14 k)
  · have hb2 := iq q hb
    refine Sx.o (fun _ _ _ k => ex_aload_n dJ0_coder_7d493_6 rfl rfl k) ?_
    obtain ⟨u5, e_u5, hb6⟩ := ob2 hb2
    refine Sx.o (fun _ _ _ k => ex_scod (strO_s e_u5) gJ0_15 dJ0_coder_7d493_7 k) ?_
    refine Sx.o (fun _ _ _ k => ex_goto 14 dJ0_coder_7d493_10 (by decide) k) ?_
    obtain ⟨u7, e_u7, hb8⟩ := ob2 hb6
    obtain rfl := Option.some.inj hb8
    exact Sx.r (fun _ _ _ k => ex_zret rfl (nr_n e_u7) dJ0_coder_7d493_14 k)
theorem Str_coder_o {v0 : Nat} {h : am_H} {r : Int32} (hb : Str_coder v0 h = some r) : v0 < 11 := by
  unfold Str_coder at hb
  exact (iz hb).1
set_option maxHeartbeats 1000000 in
set_option maxRecDepth 100000 in
noncomputable def Str_length (v0 : Nat) (h : am_H) : Option Int32 := if v0 < 11 then (strO v0).bind fun u1 => (strL v0).bind fun x3 => (Str_coder v0 h).bind fun x5 => some (x3 >>> (x5 &&& 31)) else none
set_option maxHeartbeats 1000000 in
set_option maxRecDepth 100000 in
theorem Str_length_s {v0 : Nat} {h : am_H} {r : Int32} (hb : Str_length v0 h = some r) : Sx 1 mJ0_length_8abf5 0 (am_en [am_s v0] 1) [] h (some (.int r)) h := by
  unfold Str_length at hb
  have hb := (iz hb).2
  show Sx 1 mJ0_length_8abf5 0 [am_s v0] [] h (some (.int r)) h
  refine Sx.o (fun _ _ _ k => ex_aload_n dJ0_length_8abf5_0 rfl rfl k) ?_
  obtain ⟨u1, e_u1, hb2⟩ := ob2 hb
  refine Sx.o (fun _ _ _ k => ex_sval (strO_s e_u1) gJ0_9 dJ0_length_8abf5_1 k) ?_
  obtain ⟨x3, e_x3, hb4⟩ := ob2 hb2
  refine Sx.o (fun _ _ _ k => op_sbLen dJ0_length_8abf5_4 e_x3 k) ?_
  refine Sx.o (fun _ _ _ k => ex_aload_n dJ0_length_8abf5_5 rfl rfl k) ?_
  obtain ⟨x5, e_x5, hb6⟩ := ob2 hb4
  refine sx_callX (as := []) (stq := [.int x5, .int x3]) (Str_coder_o e_x5) (by omega) dJ0_length_8abf5_6 MJ0_coder_7d493 kJ0_335 iJ0_coder_7d493 sJ0_coder_7d493 rfl rfl rfl (Nat.le_of_ble_eq_true rfl) (Nat.le_of_ble_eq_true rfl) (Str_coder_s e_x5) rfl ?_
  refine Sx.o (fun _ _ _ k => ex_ishr dJ0_length_8abf5_9 k) ?_
  obtain rfl := Option.some.inj hb6
  exact Sx.r (fun _ _ _ k => ex_iret rfl dJ0_length_8abf5_10 k)
theorem Str_length_o {v0 : Nat} {h : am_H} {r : Int32} (hb : Str_length v0 h = some r) : v0 < 11 := by
  unfold Str_length at hb
  exact (iz hb).1
set_option maxHeartbeats 1000000 in
set_option maxRecDepth 100000 in
noncomputable def Int_bitCount (v0 : Int32) (h : am_H) : Option Int32 := some ((((((((v0 - (((Int32.toUInt32 v0 >>> (Int32.toUInt32 (1 : Int32) &&& Int32.toUInt32 31)).toInt32) &&& (1431655765 : Int32))) &&& (858993459 : Int32)) + (((Int32.toUInt32 (v0 - (((Int32.toUInt32 v0 >>> (Int32.toUInt32 (1 : Int32) &&& Int32.toUInt32 31)).toInt32) &&& (1431655765 : Int32))) >>> (Int32.toUInt32 (2 : Int32) &&& Int32.toUInt32 31)).toInt32) &&& (858993459 : Int32))) + ((Int32.toUInt32 (((v0 - (((Int32.toUInt32 v0 >>> (Int32.toUInt32 (1 : Int32) &&& Int32.toUInt32 31)).toInt32) &&& (1431655765 : Int32))) &&& (858993459 : Int32)) + (((Int32.toUInt32 (v0 - (((Int32.toUInt32 v0 >>> (Int32.toUInt32 (1 : Int32) &&& Int32.toUInt32 31)).toInt32) &&& (1431655765 : Int32))) >>> (Int32.toUInt32 (2 : Int32) &&& Int32.toUInt32 31)).toInt32) &&& (858993459 : Int32))) >>> (Int32.toUInt32 (4 : Int32) &&& Int32.toUInt32 31)).toInt32)) &&& (252645135 : Int32)) + ((Int32.toUInt32 (((((v0 - (((Int32.toUInt32 v0 >>> (Int32.toUInt32 (1 : Int32) &&& Int32.toUInt32 31)).toInt32) &&& (1431655765 : Int32))) &&& (858993459 : Int32)) + (((Int32.toUInt32 (v0 - (((Int32.toUInt32 v0 >>> (Int32.toUInt32 (1 : Int32) &&& Int32.toUInt32 31)).toInt32) &&& (1431655765 : Int32))) >>> (Int32.toUInt32 (2 : Int32) &&& Int32.toUInt32 31)).toInt32) &&& (858993459 : Int32))) + ((Int32.toUInt32 (((v0 - (((Int32.toUInt32 v0 >>> (Int32.toUInt32 (1 : Int32) &&& Int32.toUInt32 31)).toInt32) &&& (1431655765 : Int32))) &&& (858993459 : Int32)) + (((Int32.toUInt32 (v0 - (((Int32.toUInt32 v0 >>> (Int32.toUInt32 (1 : Int32) &&& Int32.toUInt32 31)).toInt32) &&& (1431655765 : Int32))) >>> (Int32.toUInt32 (2 : Int32) &&& Int32.toUInt32 31)).toInt32) &&& (858993459 : Int32))) >>> (Int32.toUInt32 (4 : Int32) &&& Int32.toUInt32 31)).toInt32)) &&& (252645135 : Int32)) >>> (Int32.toUInt32 (8 : Int32) &&& Int32.toUInt32 31)).toInt32)) + ((Int32.toUInt32 ((((((v0 - (((Int32.toUInt32 v0 >>> (Int32.toUInt32 (1 : Int32) &&& Int32.toUInt32 31)).toInt32) &&& (1431655765 : Int32))) &&& (858993459 : Int32)) + (((Int32.toUInt32 (v0 - (((Int32.toUInt32 v0 >>> (Int32.toUInt32 (1 : Int32) &&& Int32.toUInt32 31)).toInt32) &&& (1431655765 : Int32))) >>> (Int32.toUInt32 (2 : Int32) &&& Int32.toUInt32 31)).toInt32) &&& (858993459 : Int32))) + ((Int32.toUInt32 (((v0 - (((Int32.toUInt32 v0 >>> (Int32.toUInt32 (1 : Int32) &&& Int32.toUInt32 31)).toInt32) &&& (1431655765 : Int32))) &&& (858993459 : Int32)) + (((Int32.toUInt32 (v0 - (((Int32.toUInt32 v0 >>> (Int32.toUInt32 (1 : Int32) &&& Int32.toUInt32 31)).toInt32) &&& (1431655765 : Int32))) >>> (Int32.toUInt32 (2 : Int32) &&& Int32.toUInt32 31)).toInt32) &&& (858993459 : Int32))) >>> (Int32.toUInt32 (4 : Int32) &&& Int32.toUInt32 31)).toInt32)) &&& (252645135 : Int32)) + ((Int32.toUInt32 (((((v0 - (((Int32.toUInt32 v0 >>> (Int32.toUInt32 (1 : Int32) &&& Int32.toUInt32 31)).toInt32) &&& (1431655765 : Int32))) &&& (858993459 : Int32)) + (((Int32.toUInt32 (v0 - (((Int32.toUInt32 v0 >>> (Int32.toUInt32 (1 : Int32) &&& Int32.toUInt32 31)).toInt32) &&& (1431655765 : Int32))) >>> (Int32.toUInt32 (2 : Int32) &&& Int32.toUInt32 31)).toInt32) &&& (858993459 : Int32))) + ((Int32.toUInt32 (((v0 - (((Int32.toUInt32 v0 >>> (Int32.toUInt32 (1 : Int32) &&& Int32.toUInt32 31)).toInt32) &&& (1431655765 : Int32))) &&& (858993459 : Int32)) + (((Int32.toUInt32 (v0 - (((Int32.toUInt32 v0 >>> (Int32.toUInt32 (1 : Int32) &&& Int32.toUInt32 31)).toInt32) &&& (1431655765 : Int32))) >>> (Int32.toUInt32 (2 : Int32) &&& Int32.toUInt32 31)).toInt32) &&& (858993459 : Int32))) >>> (Int32.toUInt32 (4 : Int32) &&& Int32.toUInt32 31)).toInt32)) &&& (252645135 : Int32)) >>> (Int32.toUInt32 (8 : Int32) &&& Int32.toUInt32 31)).toInt32)) >>> (Int32.toUInt32 (16 : Int32) &&& Int32.toUInt32 31)).toInt32)) &&& (63 : Int32))
set_option maxHeartbeats 1000000 in
set_option maxRecDepth 100000 in
theorem Int_bitCount_s {v0 : Int32} {h : am_H} {r : Int32} (hb : Int_bitCount v0 h = some r) : Sx 0 mJ6_bitCount_0f7a4 0 (am_en [.int v0] 1) [] h (some (.int r)) h := by
  unfold Int_bitCount at hb
  show Sx 0 mJ6_bitCount_0f7a4 0 [.int v0] [] h (some (.int r)) h
  refine Sx.o (fun _ _ _ k => ex_iload_n dJ6_bitCount_0f7a4_0 rfl k) ?_
  refine Sx.o (fun _ _ _ k => ex_iload_n dJ6_bitCount_0f7a4_1 rfl k) ?_
  refine Sx.o (fun _ _ _ k => op_iconst (1 : Int32) dJ6_bitCount_0f7a4_2 (by decide) k) ?_
  refine Sx.o (fun _ _ _ k => ex_iushr dJ6_bitCount_0f7a4_3 k) ?_
  refine Sx.o (fun _ _ _ k => ex_ldcw dJ6_bitCount_0f7a4_4 qJ6_265 k) ?_
  refine Sx.o (fun _ _ _ k => ex_iand dJ6_bitCount_0f7a4_7 k) ?_
  refine Sx.o (fun _ _ _ k => ex_isub dJ6_bitCount_0f7a4_8 k) ?_
  refine Sx.o (L' := [.int (v0 - (((Int32.toUInt32 v0 >>> (Int32.toUInt32 (1 : Int32) &&& Int32.toUInt32 31)).toInt32) &&& (1431655765 : Int32)))]) (fun _ _ _ k => ex_istore_n dJ6_bitCount_0f7a4_9 (by decide) k) ?_
  refine Sx.o (fun _ _ _ k => ex_iload_n dJ6_bitCount_0f7a4_10 rfl k) ?_
  refine Sx.o (fun _ _ _ k => ex_ldcw dJ6_bitCount_0f7a4_11 qJ6_266 k) ?_
  refine Sx.o (fun _ _ _ k => ex_iand dJ6_bitCount_0f7a4_14 k) ?_
  refine Sx.o (fun _ _ _ k => ex_iload_n dJ6_bitCount_0f7a4_15 rfl k) ?_
  refine Sx.o (fun _ _ _ k => op_iconst (2 : Int32) dJ6_bitCount_0f7a4_16 (by decide) k) ?_
  refine Sx.o (fun _ _ _ k => ex_iushr dJ6_bitCount_0f7a4_17 k) ?_
  refine Sx.o (fun _ _ _ k => ex_ldcw dJ6_bitCount_0f7a4_18 qJ6_266 k) ?_
  refine Sx.o (fun _ _ _ k => ex_iand dJ6_bitCount_0f7a4_21 k) ?_
  refine Sx.o (fun _ _ _ k => ex_iadd dJ6_bitCount_0f7a4_22 k) ?_
  refine Sx.o (L' := [.int (((v0 - (((Int32.toUInt32 v0 >>> (Int32.toUInt32 (1 : Int32) &&& Int32.toUInt32 31)).toInt32) &&& (1431655765 : Int32))) &&& (858993459 : Int32)) + (((Int32.toUInt32 (v0 - (((Int32.toUInt32 v0 >>> (Int32.toUInt32 (1 : Int32) &&& Int32.toUInt32 31)).toInt32) &&& (1431655765 : Int32))) >>> (Int32.toUInt32 (2 : Int32) &&& Int32.toUInt32 31)).toInt32) &&& (858993459 : Int32)))]) (fun _ _ _ k => ex_istore_n dJ6_bitCount_0f7a4_23 (by decide) k) ?_
  refine Sx.o (fun _ _ _ k => ex_iload_n dJ6_bitCount_0f7a4_24 rfl k) ?_
  refine Sx.o (fun _ _ _ k => ex_iload_n dJ6_bitCount_0f7a4_25 rfl k) ?_
  refine Sx.o (fun _ _ _ k => op_iconst (4 : Int32) dJ6_bitCount_0f7a4_26 (by decide) k) ?_
  refine Sx.o (fun _ _ _ k => ex_iushr dJ6_bitCount_0f7a4_27 k) ?_
  refine Sx.o (fun _ _ _ k => ex_iadd dJ6_bitCount_0f7a4_28 k) ?_
  refine Sx.o (fun _ _ _ k => ex_ldcw dJ6_bitCount_0f7a4_29 qJ6_267 k) ?_
  refine Sx.o (fun _ _ _ k => ex_iand dJ6_bitCount_0f7a4_32 k) ?_
  refine Sx.o (L' := [.int (((((v0 - (((Int32.toUInt32 v0 >>> (Int32.toUInt32 (1 : Int32) &&& Int32.toUInt32 31)).toInt32) &&& (1431655765 : Int32))) &&& (858993459 : Int32)) + (((Int32.toUInt32 (v0 - (((Int32.toUInt32 v0 >>> (Int32.toUInt32 (1 : Int32) &&& Int32.toUInt32 31)).toInt32) &&& (1431655765 : Int32))) >>> (Int32.toUInt32 (2 : Int32) &&& Int32.toUInt32 31)).toInt32) &&& (858993459 : Int32))) + ((Int32.toUInt32 (((v0 - (((Int32.toUInt32 v0 >>> (Int32.toUInt32 (1 : Int32) &&& Int32.toUInt32 31)).toInt32) &&& (1431655765 : Int32))) &&& (858993459 : Int32)) + (((Int32.toUInt32 (v0 - (((Int32.toUInt32 v0 >>> (Int32.toUInt32 (1 : Int32) &&& Int32.toUInt32 31)).toInt32) &&& (1431655765 : Int32))) >>> (Int32.toUInt32 (2 : Int32) &&& Int32.toUInt32 31)).toInt32) &&& (858993459 : Int32))) >>> (Int32.toUInt32 (4 : Int32) &&& Int32.toUInt32 31)).toInt32)) &&& (252645135 : Int32))]) (fun _ _ _ k => ex_istore_n dJ6_bitCount_0f7a4_33 (by decide) k) ?_
  refine Sx.o (fun _ _ _ k => ex_iload_n dJ6_bitCount_0f7a4_34 rfl k) ?_
  refine Sx.o (fun _ _ _ k => ex_iload_n dJ6_bitCount_0f7a4_35 rfl k) ?_
  refine Sx.o (fun _ _ _ k => op_bipush (8 : Int32) dJ6_bitCount_0f7a4_36 (by decide) k) ?_
  refine Sx.o (fun _ _ _ k => ex_iushr dJ6_bitCount_0f7a4_38 k) ?_
  refine Sx.o (fun _ _ _ k => ex_iadd dJ6_bitCount_0f7a4_39 k) ?_
  refine Sx.o (L' := [.int ((((((v0 - (((Int32.toUInt32 v0 >>> (Int32.toUInt32 (1 : Int32) &&& Int32.toUInt32 31)).toInt32) &&& (1431655765 : Int32))) &&& (858993459 : Int32)) + (((Int32.toUInt32 (v0 - (((Int32.toUInt32 v0 >>> (Int32.toUInt32 (1 : Int32) &&& Int32.toUInt32 31)).toInt32) &&& (1431655765 : Int32))) >>> (Int32.toUInt32 (2 : Int32) &&& Int32.toUInt32 31)).toInt32) &&& (858993459 : Int32))) + ((Int32.toUInt32 (((v0 - (((Int32.toUInt32 v0 >>> (Int32.toUInt32 (1 : Int32) &&& Int32.toUInt32 31)).toInt32) &&& (1431655765 : Int32))) &&& (858993459 : Int32)) + (((Int32.toUInt32 (v0 - (((Int32.toUInt32 v0 >>> (Int32.toUInt32 (1 : Int32) &&& Int32.toUInt32 31)).toInt32) &&& (1431655765 : Int32))) >>> (Int32.toUInt32 (2 : Int32) &&& Int32.toUInt32 31)).toInt32) &&& (858993459 : Int32))) >>> (Int32.toUInt32 (4 : Int32) &&& Int32.toUInt32 31)).toInt32)) &&& (252645135 : Int32)) + ((Int32.toUInt32 (((((v0 - (((Int32.toUInt32 v0 >>> (Int32.toUInt32 (1 : Int32) &&& Int32.toUInt32 31)).toInt32) &&& (1431655765 : Int32))) &&& (858993459 : Int32)) + (((Int32.toUInt32 (v0 - (((Int32.toUInt32 v0 >>> (Int32.toUInt32 (1 : Int32) &&& Int32.toUInt32 31)).toInt32) &&& (1431655765 : Int32))) >>> (Int32.toUInt32 (2 : Int32) &&& Int32.toUInt32 31)).toInt32) &&& (858993459 : Int32))) + ((Int32.toUInt32 (((v0 - (((Int32.toUInt32 v0 >>> (Int32.toUInt32 (1 : Int32) &&& Int32.toUInt32 31)).toInt32) &&& (1431655765 : Int32))) &&& (858993459 : Int32)) + (((Int32.toUInt32 (v0 - (((Int32.toUInt32 v0 >>> (Int32.toUInt32 (1 : Int32) &&& Int32.toUInt32 31)).toInt32) &&& (1431655765 : Int32))) >>> (Int32.toUInt32 (2 : Int32) &&& Int32.toUInt32 31)).toInt32) &&& (858993459 : Int32))) >>> (Int32.toUInt32 (4 : Int32) &&& Int32.toUInt32 31)).toInt32)) &&& (252645135 : Int32)) >>> (Int32.toUInt32 (8 : Int32) &&& Int32.toUInt32 31)).toInt32))]) (fun _ _ _ k => ex_istore_n dJ6_bitCount_0f7a4_40 (by decide) k) ?_
  refine Sx.o (fun _ _ _ k => ex_iload_n dJ6_bitCount_0f7a4_41 rfl k) ?_
  refine Sx.o (fun _ _ _ k => ex_iload_n dJ6_bitCount_0f7a4_42 rfl k) ?_
  refine Sx.o (fun _ _ _ k => op_bipush (16 : Int32) dJ6_bitCount_0f7a4_43 (by decide) k) ?_
  refine Sx.o (fun _ _ _ k => ex_iushr dJ6_bitCount_0f7a4_45 k) ?_
  refine Sx.o (fun _ _ _ k => ex_iadd dJ6_bitCount_0f7a4_46 k) ?_
  refine Sx.o (L' := [.int (((((((v0 - (((Int32.toUInt32 v0 >>> (Int32.toUInt32 (1 : Int32) &&& Int32.toUInt32 31)).toInt32) &&& (1431655765 : Int32))) &&& (858993459 : Int32)) + (((Int32.toUInt32 (v0 - (((Int32.toUInt32 v0 >>> (Int32.toUInt32 (1 : Int32) &&& Int32.toUInt32 31)).toInt32) &&& (1431655765 : Int32))) >>> (Int32.toUInt32 (2 : Int32) &&& Int32.toUInt32 31)).toInt32) &&& (858993459 : Int32))) + ((Int32.toUInt32 (((v0 - (((Int32.toUInt32 v0 >>> (Int32.toUInt32 (1 : Int32) &&& Int32.toUInt32 31)).toInt32) &&& (1431655765 : Int32))) &&& (858993459 : Int32)) + (((Int32.toUInt32 (v0 - (((Int32.toUInt32 v0 >>> (Int32.toUInt32 (1 : Int32) &&& Int32.toUInt32 31)).toInt32) &&& (1431655765 : Int32))) >>> (Int32.toUInt32 (2 : Int32) &&& Int32.toUInt32 31)).toInt32) &&& (858993459 : Int32))) >>> (Int32.toUInt32 (4 : Int32) &&& Int32.toUInt32 31)).toInt32)) &&& (252645135 : Int32)) + ((Int32.toUInt32 (((((v0 - (((Int32.toUInt32 v0 >>> (Int32.toUInt32 (1 : Int32) &&& Int32.toUInt32 31)).toInt32) &&& (1431655765 : Int32))) &&& (858993459 : Int32)) + (((Int32.toUInt32 (v0 - (((Int32.toUInt32 v0 >>> (Int32.toUInt32 (1 : Int32) &&& Int32.toUInt32 31)).toInt32) &&& (1431655765 : Int32))) >>> (Int32.toUInt32 (2 : Int32) &&& Int32.toUInt32 31)).toInt32) &&& (858993459 : Int32))) + ((Int32.toUInt32 (((v0 - (((Int32.toUInt32 v0 >>> (Int32.toUInt32 (1 : Int32) &&& Int32.toUInt32 31)).toInt32) &&& (1431655765 : Int32))) &&& (858993459 : Int32)) + (((Int32.toUInt32 (v0 - (((Int32.toUInt32 v0 >>> (Int32.toUInt32 (1 : Int32) &&& Int32.toUInt32 31)).toInt32) &&& (1431655765 : Int32))) >>> (Int32.toUInt32 (2 : Int32) &&& Int32.toUInt32 31)).toInt32) &&& (858993459 : Int32))) >>> (Int32.toUInt32 (4 : Int32) &&& Int32.toUInt32 31)).toInt32)) &&& (252645135 : Int32)) >>> (Int32.toUInt32 (8 : Int32) &&& Int32.toUInt32 31)).toInt32)) + ((Int32.toUInt32 ((((((v0 - (((Int32.toUInt32 v0 >>> (Int32.toUInt32 (1 : Int32) &&& Int32.toUInt32 31)).toInt32) &&& (1431655765 : Int32))) &&& (858993459 : Int32)) + (((Int32.toUInt32 (v0 - (((Int32.toUInt32 v0 >>> (Int32.toUInt32 (1 : Int32) &&& Int32.toUInt32 31)).toInt32) &&& (1431655765 : Int32))) >>> (Int32.toUInt32 (2 : Int32) &&& Int32.toUInt32 31)).toInt32) &&& (858993459 : Int32))) + ((Int32.toUInt32 (((v0 - (((Int32.toUInt32 v0 >>> (Int32.toUInt32 (1 : Int32) &&& Int32.toUInt32 31)).toInt32) &&& (1431655765 : Int32))) &&& (858993459 : Int32)) + (((Int32.toUInt32 (v0 - (((Int32.toUInt32 v0 >>> (Int32.toUInt32 (1 : Int32) &&& Int32.toUInt32 31)).toInt32) &&& (1431655765 : Int32))) >>> (Int32.toUInt32 (2 : Int32) &&& Int32.toUInt32 31)).toInt32) &&& (858993459 : Int32))) >>> (Int32.toUInt32 (4 : Int32) &&& Int32.toUInt32 31)).toInt32)) &&& (252645135 : Int32)) + ((Int32.toUInt32 (((((v0 - (((Int32.toUInt32 v0 >>> (Int32.toUInt32 (1 : Int32) &&& Int32.toUInt32 31)).toInt32) &&& (1431655765 : Int32))) &&& (858993459 : Int32)) + (((Int32.toUInt32 (v0 - (((Int32.toUInt32 v0 >>> (Int32.toUInt32 (1 : Int32) &&& Int32.toUInt32 31)).toInt32) &&& (1431655765 : Int32))) >>> (Int32.toUInt32 (2 : Int32) &&& Int32.toUInt32 31)).toInt32) &&& (858993459 : Int32))) + ((Int32.toUInt32 (((v0 - (((Int32.toUInt32 v0 >>> (Int32.toUInt32 (1 : Int32) &&& Int32.toUInt32 31)).toInt32) &&& (1431655765 : Int32))) &&& (858993459 : Int32)) + (((Int32.toUInt32 (v0 - (((Int32.toUInt32 v0 >>> (Int32.toUInt32 (1 : Int32) &&& Int32.toUInt32 31)).toInt32) &&& (1431655765 : Int32))) >>> (Int32.toUInt32 (2 : Int32) &&& Int32.toUInt32 31)).toInt32) &&& (858993459 : Int32))) >>> (Int32.toUInt32 (4 : Int32) &&& Int32.toUInt32 31)).toInt32)) &&& (252645135 : Int32)) >>> (Int32.toUInt32 (8 : Int32) &&& Int32.toUInt32 31)).toInt32)) >>> (Int32.toUInt32 (16 : Int32) &&& Int32.toUInt32 31)).toInt32))]) (fun _ _ _ k => ex_istore_n dJ6_bitCount_0f7a4_47 (by decide) k) ?_
  refine Sx.o (fun _ _ _ k => ex_iload_n dJ6_bitCount_0f7a4_48 rfl k) ?_
  refine Sx.o (fun _ _ _ k => op_bipush (63 : Int32) dJ6_bitCount_0f7a4_49 (by decide) k) ?_
  refine Sx.o (fun _ _ _ k => ex_iand dJ6_bitCount_0f7a4_51 k) ?_
  obtain rfl := Option.some.inj hb
  exact Sx.r (fun _ _ _ k => ex_iret rfl dJ6_bitCount_0f7a4_52 k)
set_option maxHeartbeats 1000000 in
set_option maxRecDepth 100000 in
noncomputable def Arr_fill_5_b (g : (Nat × Int32 × Int32 × Int32 × Nat × am_H) → Option am_H) (v0 : Nat) (v1 : Int32) (v2 : Int32) (v3 : Int32) (h : am_H) : Option am_H := if v3 ≤ v2 then some h else (sI h v0 v2 v1).bind fun h3 => g (5, v1, (v2 + (1 : Int32)), v3, v0, h3)
set_option maxHeartbeats 1000000 in
set_option maxRecDepth 100000 in
theorem Arr_fill_5_m {g g2 : (Nat × Int32 × Int32 × Int32 × Nat × am_H) → Option am_H} (hg : ∀ s, Le (g s) (g2 s)) (v0 : Nat) (v1 : Int32) (v2 : Int32) (v3 : Int32) (h : am_H) : Le (Arr_fill_5_b g v0 v1 v2 v3 h) (Arr_fill_5_b g2 v0 v1 v2 v3 h) := by unfold Arr_fill_5_b; exact le_i (le_r _) (le_b (le_r _) fun h3 => hg _)
noncomputable def Arr_fill_5_F (g : (Nat × Int32 × Int32 × Int32 × Nat × am_H) → Option am_H) (s : (Nat × Int32 × Int32 × Int32 × Nat × am_H)) : Option am_H := if s.1 = 5 then Arr_fill_5_b g s.2.2.2.2.1 s.2.1 s.2.2.1 s.2.2.2.1 s.2.2.2.2.2 else none
theorem Arr_fill_5_M : Mn Arr_fill_5_F := fun g g2 hg s => by unfold Arr_fill_5_F; exact le_i (Arr_fill_5_m hg s.2.2.2.2.1 s.2.1 s.2.2.1 s.2.2.2.1 s.2.2.2.2.2) (le_r _)
def Arr_fill_5_P (s : (Nat × Int32 × Int32 × Int32 × Nat × am_H)) (r : am_H) : Prop := (s.1 = 5 → Sx 0 mJ7_fill_53178 5 [.ref s.2.2.2.2.1, .int s.2.1, .int s.2.2.1, .int s.2.2.2.1] [] s.2.2.2.2.2 none r) ∧ True
set_option maxHeartbeats 1000000 in
set_option maxRecDepth 100000 in
theorem Arr_fill_5_t {g : (Nat × Int32 × Int32 × Int32 × Nat × am_H) → Option am_H} (hg : ∀ s r, g s = some r → Arr_fill_5_P s r) {v0 : Nat} {v1 : Int32} {v2 : Int32} {v3 : Int32} {h : am_H} {r : am_H} (hb : Arr_fill_5_b g v0 v1 v2 v3 h = some r) : Sx 0 mJ7_fill_53178 5 [.ref v0, .int v1, .int v2, .int v3] [] h none r := by
  unfold Arr_fill_5_b at hb
  refine Sx.o (fun _ _ _ k => ex_iload_n dJ7_fill_53178_5 rfl k) ?_
  refine Sx.o (fun _ _ _ k => ex_iload_n dJ7_fill_53178_6 rfl k) ?_
  refine Sx.b (fun _ _ _ k1 k2 => ex_icmp_ge 20 dJ7_fill_53178_7 (by decide) k1 k2) (fun q => ?_) (fun q => ?_)
  · have hb1 := ip q hb
    obtain rfl := Option.some.inj hb1
    exact Sx.r (fun _ _ _ k => ex_vret rfl dJ7_fill_53178_20 k)
  · have hb2 := iq q hb
    refine Sx.o (fun _ _ _ k => ex_aload_n dJ7_fill_53178_10 rfl rfl k) ?_
    refine Sx.o (fun _ _ _ k => ex_iload_n dJ7_fill_53178_11 rfl k) ?_
    refine Sx.o (fun _ _ _ k => ex_iload_n dJ7_fill_53178_12 rfl k) ?_
    obtain ⟨h3, e_h3, hb4⟩ := ob2 hb2
    refine Sx.p (sI_q e_h3) (fun _ _ _ k => op_iast dJ7_fill_53178_13 e_h3 k) ?_
    refine Sx.o (L' := [.ref v0, .int v1, .int (v2 + (1 : Int32)), .int v3]) (fun _ _ _ k => op_iinc (1 : Int32) dJ7_fill_53178_14 (by decide) rfl (by decide) k) ?_
    refine Sx.o (fun _ _ _ k => ex_goto 5 dJ7_fill_53178_17 (by decide) k) ?_
    exact (hg _ _ hb4).1 rfl
theorem Arr_fill_5_T : ∀ s r, fx Arr_fill_5_F Arr_fill_5_M s = some r → Arr_fill_5_P s r := fx_ind Arr_fill_5_M Arr_fill_5_P (fun g hg s r hb => by
  unfold Arr_fill_5_F at hb
  exact ⟨fun q => Arr_fill_5_t hg (ip q hb), trivial⟩)
set_option maxHeartbeats 1000000 in
set_option maxRecDepth 100000 in
theorem Arr_fill_5_r {g : (Nat × Int32 × Int32 × Int32 × Nat × am_H) → Option am_H} (hg : ∀ s r, g s = some r → Eqs s.2.2.2.2.2 r) {v0 : Nat} {v1 : Int32} {v2 : Int32} {v3 : Int32} {h : am_H} {r : am_H} (hb : Arr_fill_5_b g v0 v1 v2 v3 h = some r) : Eqs h r := by
  unfold Arr_fill_5_b at hb
  have w0 := Eqs.rf h
  by_cases q : v3 ≤ v2
  · have hb1 := ip q hb
    obtain rfl := Option.some.inj hb1
    exact w0
  · have hb2 := iq q hb
    obtain ⟨h3, e_h3, hb4⟩ := ob2 hb2
    have w5 := w0.tr (sI_q e_h3)
    exact w5.tr (hg _ _ hb4)
theorem Arr_fill_5_Q : ∀ s r, fx Arr_fill_5_F Arr_fill_5_M s = some r → Eqs s.2.2.2.2.2 r := fx_ind Arr_fill_5_M (fun s r => Eqs s.2.2.2.2.2 r) (fun g hg s r hb => by
  unfold Arr_fill_5_F at hb
  by_cases q0 : s.1 = 5
  · exact Arr_fill_5_r hg (ip q0 hb)
  · have hb0 := iq q0 hb
    exact nomatch hb0)
noncomputable def Arr_fill_5 (v0 : Nat) (v1 : Int32) (v2 : Int32) (v3 : Int32) (h : am_H) : Option am_H := fx Arr_fill_5_F Arr_fill_5_M (5, v1, v2, v3, v0, h)
set_option maxHeartbeats 1000000 in
set_option maxRecDepth 100000 in
theorem Arr_fill_5_e (v0 : Nat) (v1 : Int32) (v2 : Int32) (v3 : Int32) (h : am_H) : Arr_fill_5 v0 v1 v2 v3 h = (if v3 ≤ v2 then some h else (sI h v0 v2 v1).bind fun h3 => Arr_fill_5 v0 v1 (v2 + (1 : Int32)) v3 h3) := (fx_eq Arr_fill_5_M (5, v1, v2, v3, v0, h)).trans (if_pos rfl)
theorem Arr_fill_5_q {v0 : Nat} {v1 : Int32} {v2 : Int32} {v3 : Int32} {h : am_H} {r : am_H} (hb : Arr_fill_5 v0 v1 v2 v3 h = some r) : Eqs h r := Arr_fill_5_Q _ _ hb
theorem Arr_fill_5_s {v0 : Nat} {v1 : Int32} {v2 : Int32} {v3 : Int32} {h : am_H} {r : am_H} (hb : Arr_fill_5 v0 v1 v2 v3 h = some r) : Sx 0 mJ7_fill_53178 5 [.ref v0, .int v1, .int v2, .int v3] [] h none r := (Arr_fill_5_T _ _ hb).1 rfl
set_option maxHeartbeats 1000000 in
set_option maxRecDepth 100000 in
noncomputable def Arr_fill (v0 : Nat) (v1 : Int32) (h : am_H) : Option am_H := (aL h v0).bind fun x6 => Arr_fill_5 v0 v1 (0 : Int32) x6 h
set_option maxHeartbeats 1000000 in
set_option maxRecDepth 100000 in
theorem Arr_fill_s {v0 : Nat} {v1 : Int32} {h : am_H} {r : am_H} (hb : Arr_fill v0 v1 h = some r) : Sx 0 mJ7_fill_53178 0 (am_en [.ref v0, .int v1] 4) [] h none r := by
  unfold Arr_fill at hb
  show Sx 0 mJ7_fill_53178 0 [.ref v0, .int v1, .retAddr 0, .retAddr 0] [] h none r
  refine Sx.o (fun _ _ _ k => op_iconst (0 : Int32) dJ7_fill_53178_0 (by decide) k) ?_
  refine Sx.o (L' := [.ref v0, .int v1, .int (0 : Int32), .retAddr 0]) (fun _ _ _ k => ex_istore_n dJ7_fill_53178_1 (by decide) k) ?_
  refine Sx.o (fun _ _ _ k => ex_aload_n dJ7_fill_53178_2 rfl rfl k) ?_
  obtain ⟨x6, e_x6, hb7⟩ := ob2 hb
  refine Sx.o (fun _ _ _ k => op_alen dJ7_fill_53178_3 e_x6 k) ?_
  refine Sx.o (L' := [.ref v0, .int v1, .int (0 : Int32), .int x6]) (fun _ _ _ k => ex_istore_n dJ7_fill_53178_4 (by decide) k) ?_
  exact Arr_fill_5_s hb7
set_option maxHeartbeats 1000000 in
set_option maxRecDepth 100000 in
theorem Arr_fill_q {v0 : Nat} {v1 : Int32} {h : am_H} {r : am_H} (hb : Arr_fill v0 v1 h = some r) : Eqs h r := by
  unfold Arr_fill at hb
  have w0 := Eqs.rf h
  obtain ⟨x6, e_x6, hb7⟩ := ob2 hb
  exact w0.tr (Arr_fill_5_q hb7)
