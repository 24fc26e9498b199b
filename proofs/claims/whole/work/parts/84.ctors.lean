/-! THE SMALL CONSTRUCTORS -/
set_option maxRecDepth 100000
theorem kco_1 : Cond.instanceMethod objectInit ∈ pw_LG := pw_inT 28 (by decide +kernel) (by decide +kernel)
theorem kco_2 : Cond.code objectInit ⟨#[0xb1]⟩ 1 none ∈ pw_LG := pw_inT 29 (by decide +kernel) (by decide +kernel)
theorem kco_ar : Cond.arrayClass .int ∈ pw_LG := pw_inT 131 (by decide +kernel) (by decide +kernel)
theorem kco_ff : Cond.classLink RX4 9 ("[" ++ (FieldType.array .int).toString) ∈ pw_LG := pw_inT 138 (by decide +kernel) (by decide +kernel)
theorem lf_mna {K : pw_K} {G : pw_G} {N0 : Nat} {own : String} {cc : ByteArray} {nL : Nat} {ret : Option FieldType} {d : Nat} {Q : State → Prop} {pc : Nat} {l : List (Nat × Value)} {st : List Value} {es : List va_E} {n k : Nat} {o : Nat} {x : va_E} {new : List va_E} {z y : Int32} {N M i : Nat} (hcl : Cond.classLink own i ("[" ++ (FieldType.array .int).toString) ∈ pw_LG) (har : Cond.arrayClass .int ∈ pw_LG) (dg : decode cc pc = .ok (.multianewarray i 2, 4)) (hn : ¬ z < 0) (hm : ¬ y < 0) (hN : z.toNatClampNeg = N) (hM : y.toNatClampNeg = M) (hb1 : N * 4 ≤ 536870912) (hb2 : M * 4 ≤ 536870912) (hb3 : M ≤ 536870912) (hc : n + (1 + N) ≤ K.2.2.2.1.cells) (hs : k + (N + N * M) ≤ K.2.2.2.1.slots)
    (h : CW K G N0 own cc nL ret d Q (pc + 4) l (.ref (N0 + (es.length + new.length)) :: st) (es.set o x ++ (new ++ (.inl (G.2.2.2.1, N, .inr (.inr (.inr (.inr (fun j => if j < N then some (N0 + (es.length + new.length) + 1 + j) else none))))) :: List.replicate N (.inl (G.2.1, M, .inl (fun _ => 0)))))) (n + 1 + N) (k + N + N * M)) : CW K G N0 own cc nL ret d Q pc l (.int y :: .int z :: st) (es.set o x ++ new) n k := by
  refine cw_mna hcl har dg hn hm hN hM hb1 hb2 hb3 hc hs ?_
  rw [List.length_append, List.length_set, List.append_assoc]
  exact h
theorem goX7 : Cond.methodLink RX7 3 objectInit ∈ pw_LG := pw_inT 35 (by decide +kernel) (by decide +kernel)
theorem glX7_9 : pw_FL RX7 9 TX7 0 := pw_inT 36 (by decide +kernel) (by decide +kernel)
theorem glX7_15 : pw_FL RX7 15 TX7 1 := pw_inT 41 (by decide +kernel) (by decide +kernel)
theorem glX7_18 : pw_FL RX7 18 TX7 2 := pw_inT 43 (by decide +kernel) (by decide +kernel)
theorem glX7_21 : pw_FL RX7 21 TX7 3 := pw_inT 46 (by decide +kernel) (by decide +kernel)
theorem glX7_24 : pw_FL RX7 24 TX7 4 := pw_inT 50 (by decide +kernel) (by decide +kernel)
theorem glX7_27 : pw_FL RX7 27 TX7 5 := pw_inT 54 (by decide +kernel) (by decide +kernel)
theorem glX7_30 : pw_FL RX7 30 TX7 6 := pw_inT 59 (by decide +kernel) (by decide +kernel)
theorem glX7_33 : pw_FL RX7 33 TX7 7 := pw_inT 64 (by decide +kernel) (by decide +kernel)
theorem glX7_36 : pw_FL RX7 36 TX7 8 := pw_inT 68 (by decide +kernel) (by decide +kernel)
theorem glX7_39 : pw_FL RX7 39 TX7 9 := pw_inT 69 (by decide +kernel) (by decide +kernel)
theorem glX7_42 : pw_FL RX7 42 TX7 10 := pw_inT 70 (by decide +kernel) (by decide +kernel)
theorem goX5 : Cond.methodLink RX5 3 objectInit ∈ pw_LG := pw_inT 227 (by decide +kernel) (by decide +kernel)
theorem glX5_9 : pw_FL RX5 9 TX5 0 := pw_inT 228 (by decide +kernel) (by decide +kernel)
theorem goX4 : Cond.methodLink RX4 3 objectInit ∈ pw_LG := pw_inT 137 (by decide +kernel) (by decide +kernel)
theorem glX4_11 : pw_FL RX4 11 TX4 2 := pw_inT 142 (by decide +kernel) (by decide +kernel)
theorem glX4_16 : pw_FL RX4 16 TX4 3 := pw_inT 143 (by decide +kernel) (by decide +kernel)
theorem glX4_20 : pw_FL RX4 20 TX4 0 := pw_inT 140 (by decide +kernel) (by decide +kernel)
theorem glX4_24 : pw_FL RX4 24 TX4 1 := pw_inT 141 (by decide +kernel) (by decide +kernel)
theorem goX9 : Cond.methodLink RX9 3 objectInit ∈ pw_LG := pw_inT 158 (by decide +kernel) (by decide +kernel)
theorem glX9_9 : pw_FL RX9 9 TX9 0 := pw_inT 159 (by decide +kernel) (by decide +kernel)
theorem glX9_15 : pw_FL RX9 15 TX9 1 := pw_inT 160 (by decide +kernel) (by decide +kernel)
theorem goX6 : Cond.methodLink RX6 3 objectInit ∈ pw_LG := pw_inT 171 (by decide +kernel) (by decide +kernel)
theorem glX6_9 : pw_FL RX6 9 TX6 1 := pw_inT 173 (by decide +kernel) (by decide +kernel)
theorem glX6_15 : pw_FL RX6 15 TX6 0 := pw_inT 172 (by decide +kernel) (by decide +kernel)
theorem goX0 : Cond.methodLink RX0 3 objectInit ∈ pw_LG := pw_inT 184 (by decide +kernel) (by decide +kernel)
theorem glX0_9 : pw_FL RX0 9 TX0 0 := pw_inT 185 (by decide +kernel) (by decide +kernel)
theorem goX2 : Cond.methodLink RX2 3 objectInit ∈ pw_LG := pw_inT 194 (by decide +kernel) (by decide +kernel)
theorem glX2_9 : pw_FL RX2 9 TX2 2 := pw_inT 197 (by decide +kernel) (by decide +kernel)
theorem glX2_15 : pw_FL RX2 15 TX2 0 := pw_inT 195 (by decide +kernel) (by decide +kernel)
theorem glX2_19 : pw_FL RX2 19 TX2 1 := pw_inT 196 (by decide +kernel) (by decide +kernel)
theorem goX1 : Cond.methodLink RX1 3 objectInit ∈ pw_LG := pw_inT 210 (by decide +kernel) (by decide +kernel)
theorem glX1_9 : pw_FL RX1 9 TX1 0 := pw_inT 211 (by decide +kernel) (by decide +kernel)
theorem glX1_15 : pw_FL RX1 15 TX1 1 := pw_inT 212 (by decide +kernel) (by decide +kernel)
theorem goX11 : Cond.methodLink RX11 1 objectInit ∈ pw_LG := pw_inT 1105 (by decide +kernel) (by decide +kernel)
theorem glX11_9 : pw_FL RX11 9 TX11 0 := pw_inT 1106 (by decide +kernel) (by decide +kernel)
theorem glX11_13 : pw_FL RX11 13 TX11 1 := pw_inT 1107 (by decide +kernel) (by decide +kernel)
theorem glX11_16 : pw_FL RX11 16 TX11 2 := pw_inT 1108 (by decide +kernel) (by decide +kernel)
theorem glX11_19 : pw_FL RX11 19 TX11 3 := pw_inT 1109 (by decide +kernel) (by decide +kernel)
theorem glX11_22 : pw_FL RX11 22 TX11 4 := pw_inT 1110 (by decide +kernel) (by decide +kernel)
theorem glX11_25 : pw_FL RX11 25 TX11 9 := pw_inT 1115 (by decide +kernel) (by decide +kernel)
theorem glX11_28 : pw_FL RX11 28 TX11 10 := pw_inT 1116 (by decide +kernel) (by decide +kernel)
theorem glX11_31 : pw_FL RX11 31 TX11 11 := pw_inT 1117 (by decide +kernel) (by decide +kernel)
theorem glX11_34 : pw_FL RX11 34 TX11 15 := pw_inT 1121 (by decide +kernel) (by decide +kernel)
theorem glX11_37 : pw_FL RX11 37 TX11 16 := pw_inT 1122 (by decide +kernel) (by decide +kernel)
theorem glX11_40 : pw_FL RX11 40 TX11 17 := pw_inT 1123 (by decide +kernel) (by decide +kernel)
theorem glX11_43 : pw_FL RX11 43 TX11 18 := pw_inT 1124 (by decide +kernel) (by decide +kernel)
theorem glX11_46 : pw_FL RX11 46 TX11 19 := pw_inT 1125 (by decide +kernel) (by decide +kernel)
theorem glX11_49 : pw_FL RX11 49 TX11 20 := pw_inT 1126 (by decide +kernel) (by decide +kernel)
set_option maxHeartbeats 4000000 in
theorem tX7_init (l : Launch) (G : pw_G) (N0 o : Nat) {es : List va_E} (ho : es[o]? = some (.inr (6, [.null, .null, .null, .null, .null, .null, .null, .null, .null, .null, .null, .int 0, .int 0, .int 0, .int 0, .int 0]))) : CMet l G N0 yX7_init cX7_init 1 1 11 101 [.ref (N0 + o)] es (es.set o (.inr (6, [.ref (N0 + (es.length + 0)), .ref (N0 + (es.length + 1)), .ref (N0 + (es.length + 2)), .ref (N0 + (es.length + 3)), .ref (N0 + (es.length + 4)), .ref (N0 + (es.length + 5)), .ref (N0 + (es.length + 6)), .ref (N0 + (es.length + 7)), .ref (N0 + (es.length + 8)), .ref (N0 + (es.length + 9)), .ref (N0 + (es.length + 10)), .int 0, .int 0, .int 0, .int 0, .int 0])) ++ [.inl (G.2.1, 7, .inl (fun _ => 0)), .inl (G.2.1, 7, .inl (fun _ => 0)), .inl (G.2.1, 7, .inl (fun _ => 0)), .inl (G.2.1, 10, .inl (fun _ => 0)), .inl (G.2.1, 10, .inl (fun _ => 0)), .inl (G.2.1, 10, .inl (fun _ => 0)), .inl (G.2.1, 10, .inl (fun _ => 0)), .inl (G.2.1, 10, .inl (fun _ => 0)), .inl (G.2.1, 10, .inl (fun _ => 0)), .inl (G.2.1, 10, .inl (fun _ => 0)), .inl (G.2.1, 10, .inl (fun _ => 0))]) :=
  cw_met (own := RX7) (l0 := [(0, .ref (N0 + o))]) rfl (by decide) rfl rfl (Nat.le_of_ble_eq_true rfl) (Nat.lt_of_le_of_lt (Nat.zero_le o) (List.getElem?_eq_some_iff.mp ho).1) fun K hK hH hM hR => by
  have hol := (List.getElem?_eq_some_iff.mp ho).1
  exact (lf_start ho <|
cw_aload_n (pc := 0) dX7_init_0 0 rfl <|
cw_obj goX7 kco_1 kco_2 (pc := 1) dX7_init_1 (by decide) (by decide) <|
cw_aload_n (pc := 4) dX7_init_4 0 rfl <|
cw_bipush (v := 7) (pc := 5) dX7_init_5 (by decide) <|
lf_newa (N := 7) kco_ar (pc := 7) dX7_init_7 (by decide) rfl (by decide) (by rw [hR]; exact Nat.le_of_ble_eq_true rfl) (by rw [hR]; exact Nat.le_of_ble_eq_true rfl) <|
lf_put (ty := .array .int) hol cfX7 (by decide) glX7_9 rfl hM rfl (by decide +kernel) rfl rfl (Nat.le_of_ble_eq_true rfl) (pc := 9) dX7_init_9 <|
cw_aload_n (pc := 12) dX7_init_12 0 rfl <|
cw_bipush (v := 7) (pc := 13) dX7_init_13 (by decide) <|
lf_newa (N := 7) kco_ar (pc := 15) dX7_init_15 (by decide) rfl (by decide) (by rw [hR]; exact Nat.le_of_ble_eq_true rfl) (by rw [hR]; exact Nat.le_of_ble_eq_true rfl) <|
lf_put (ty := .array .int) hol cfX7 (by decide) glX7_15 rfl hM rfl (by decide +kernel) rfl rfl (Nat.le_of_ble_eq_true rfl) (pc := 17) dX7_init_17 <|
cw_aload_n (pc := 20) dX7_init_20 0 rfl <|
cw_bipush (v := 7) (pc := 21) dX7_init_21 (by decide) <|
lf_newa (N := 7) kco_ar (pc := 23) dX7_init_23 (by decide) rfl (by decide) (by rw [hR]; exact Nat.le_of_ble_eq_true rfl) (by rw [hR]; exact Nat.le_of_ble_eq_true rfl) <|
lf_put (ty := .array .int) hol cfX7 (by decide) glX7_18 rfl hM rfl (by decide +kernel) rfl rfl (Nat.le_of_ble_eq_true rfl) (pc := 25) dX7_init_25 <|
cw_aload_n (pc := 28) dX7_init_28 0 rfl <|
cw_bipush (v := 10) (pc := 29) dX7_init_29 (by decide) <|
lf_newa (N := 10) kco_ar (pc := 31) dX7_init_31 (by decide) rfl (by decide) (by rw [hR]; exact Nat.le_of_ble_eq_true rfl) (by rw [hR]; exact Nat.le_of_ble_eq_true rfl) <|
lf_put (ty := .array .int) hol cfX7 (by decide) glX7_21 rfl hM rfl (by decide +kernel) rfl rfl (Nat.le_of_ble_eq_true rfl) (pc := 33) dX7_init_33 <|
cw_aload_n (pc := 36) dX7_init_36 0 rfl <|
cw_bipush (v := 10) (pc := 37) dX7_init_37 (by decide) <|
lf_newa (N := 10) kco_ar (pc := 39) dX7_init_39 (by decide) rfl (by decide) (by rw [hR]; exact Nat.le_of_ble_eq_true rfl) (by rw [hR]; exact Nat.le_of_ble_eq_true rfl) <|
lf_put (ty := .array .int) hol cfX7 (by decide) glX7_24 rfl hM rfl (by decide +kernel) rfl rfl (Nat.le_of_ble_eq_true rfl) (pc := 41) dX7_init_41 <|
cw_aload_n (pc := 44) dX7_init_44 0 rfl <|
cw_bipush (v := 10) (pc := 45) dX7_init_45 (by decide) <|
lf_newa (N := 10) kco_ar (pc := 47) dX7_init_47 (by decide) rfl (by decide) (by rw [hR]; exact Nat.le_of_ble_eq_true rfl) (by rw [hR]; exact Nat.le_of_ble_eq_true rfl) <|
lf_put (ty := .array .int) hol cfX7 (by decide) glX7_27 rfl hM rfl (by decide +kernel) rfl rfl (Nat.le_of_ble_eq_true rfl) (pc := 49) dX7_init_49 <|
cw_aload_n (pc := 52) dX7_init_52 0 rfl <|
cw_bipush (v := 10) (pc := 53) dX7_init_53 (by decide) <|
lf_newa (N := 10) kco_ar (pc := 55) dX7_init_55 (by decide) rfl (by decide) (by rw [hR]; exact Nat.le_of_ble_eq_true rfl) (by rw [hR]; exact Nat.le_of_ble_eq_true rfl) <|
lf_put (ty := .array .int) hol cfX7 (by decide) glX7_30 rfl hM rfl (by decide +kernel) rfl rfl (Nat.le_of_ble_eq_true rfl) (pc := 57) dX7_init_57 <|
cw_aload_n (pc := 60) dX7_init_60 0 rfl <|
cw_bipush (v := 10) (pc := 61) dX7_init_61 (by decide) <|
lf_newa (N := 10) kco_ar (pc := 63) dX7_init_63 (by decide) rfl (by decide) (by rw [hR]; exact Nat.le_of_ble_eq_true rfl) (by rw [hR]; exact Nat.le_of_ble_eq_true rfl) <|
lf_put (ty := .array .int) hol cfX7 (by decide) glX7_33 rfl hM rfl (by decide +kernel) rfl rfl (Nat.le_of_ble_eq_true rfl) (pc := 65) dX7_init_65 <|
cw_aload_n (pc := 68) dX7_init_68 0 rfl <|
cw_bipush (v := 10) (pc := 69) dX7_init_69 (by decide) <|
lf_newa (N := 10) kco_ar (pc := 71) dX7_init_71 (by decide) rfl (by decide) (by rw [hR]; exact Nat.le_of_ble_eq_true rfl) (by rw [hR]; exact Nat.le_of_ble_eq_true rfl) <|
lf_put (ty := .array .int) hol cfX7 (by decide) glX7_36 rfl hM rfl (by decide +kernel) rfl rfl (Nat.le_of_ble_eq_true rfl) (pc := 73) dX7_init_73 <|
cw_aload_n (pc := 76) dX7_init_76 0 rfl <|
cw_bipush (v := 10) (pc := 77) dX7_init_77 (by decide) <|
lf_newa (N := 10) kco_ar (pc := 79) dX7_init_79 (by decide) rfl (by decide) (by rw [hR]; exact Nat.le_of_ble_eq_true rfl) (by rw [hR]; exact Nat.le_of_ble_eq_true rfl) <|
lf_put (ty := .array .int) hol cfX7 (by decide) glX7_39 rfl hM rfl (by decide +kernel) rfl rfl (Nat.le_of_ble_eq_true rfl) (pc := 81) dX7_init_81 <|
cw_aload_n (pc := 84) dX7_init_84 0 rfl <|
cw_bipush (v := 10) (pc := 85) dX7_init_85 (by decide) <|
lf_newa (N := 10) kco_ar (pc := 87) dX7_init_87 (by decide) rfl (by decide) (by rw [hR]; exact Nat.le_of_ble_eq_true rfl) (by rw [hR]; exact Nat.le_of_ble_eq_true rfl) <|
lf_put (ty := .array .int) hol cfX7 (by decide) glX7_42 rfl hM rfl (by decide +kernel) rfl rfl (Nat.le_of_ble_eq_true rfl) (pc := 89) dX7_init_89 <|
cw_ret hH (pc := 92) dX7_init_92)
set_option maxHeartbeats 4000000 in
theorem tX5_init (l : Launch) (G : pw_G) (N0 o : Nat) {es : List va_E} (ho : es[o]? = some (.inr (4, [.null, .int 0, .int 0, .int 0, .int 0, .int 0]))) : CMet l G N0 yX5_init cX5_init 1 1 1 100 [.ref (N0 + o)] es (es.set o (.inr (4, [.ref (N0 + (es.length + 0)), .int 0, .int 0, .int 0, .int 0, .int 0])) ++ [.inl (G.2.1, 100, .inl (fun _ => 0))]) :=
  cw_met (own := RX5) (l0 := [(0, .ref (N0 + o))]) rfl (by decide) rfl rfl (Nat.le_of_ble_eq_true rfl) (Nat.lt_of_le_of_lt (Nat.zero_le o) (List.getElem?_eq_some_iff.mp ho).1) fun K hK hH hM hR => by
  have hol := (List.getElem?_eq_some_iff.mp ho).1
  exact (lf_start ho <|
cw_aload_n (pc := 0) dX5_init_0 0 rfl <|
cw_obj goX5 kco_1 kco_2 (pc := 1) dX5_init_1 (by decide) (by decide) <|
cw_aload_n (pc := 4) dX5_init_4 0 rfl <|
cw_bipush (v := 100) (pc := 5) dX5_init_5 (by decide) <|
lf_newa (N := 100) kco_ar (pc := 7) dX5_init_7 (by decide) rfl (by decide) (by rw [hR]; exact Nat.le_of_ble_eq_true rfl) (by rw [hR]; exact Nat.le_of_ble_eq_true rfl) <|
lf_put (ty := .array .int) hol cfX5 (by decide) glX5_9 rfl hM rfl (by decide +kernel) rfl rfl (Nat.le_of_ble_eq_true rfl) (pc := 9) dX5_init_9 <|
cw_ret hH (pc := 12) dX5_init_12)
set_option maxHeartbeats 4000000 in
theorem tX4_init (l : Launch) (G : pw_G) (N0 o : Nat) (t1 : Nat) (t2 : Nat) {es : List va_E} (ho : es[o]? = some (.inr (3, [.null, .null, .null, .null]))) : CMet l G N0 yX4_init cX4_init 3 1 9 184 [.ref (N0 + o), .ref t1, .ref t2] es (es.set o (.inr (3, [.ref t1, .ref t2, .ref (N0 + (es.length + 0)), .ref (N0 + (es.length + 8))])) ++ [.inl (G.2.2.2.1, 7, .inr (.inr (.inr (.inr (fun j => if j < 7 then some (N0 + (es.length + 0) + 1 + j) else none))))), .inl (G.2.1, 7, .inl (fun _ => 0)), .inl (G.2.1, 7, .inl (fun _ => 0)), .inl (G.2.1, 7, .inl (fun _ => 0)), .inl (G.2.1, 7, .inl (fun _ => 0)), .inl (G.2.1, 7, .inl (fun _ => 0)), .inl (G.2.1, 7, .inl (fun _ => 0)), .inl (G.2.1, 7, .inl (fun _ => 0)), .inl (G.2.1, 128, .inl (fun _ => 0))]) :=
  cw_met (own := RX4) (l0 := [(0, .ref (N0 + o)), (1, .ref t1), (2, .ref t2)]) rfl (by decide) rfl rfl (Nat.le_of_ble_eq_true rfl) (Nat.lt_of_le_of_lt (Nat.zero_le o) (List.getElem?_eq_some_iff.mp ho).1) fun K hK hH hM hR => by
  have hol := (List.getElem?_eq_some_iff.mp ho).1
  exact (lf_start ho <|
cw_aload_n (pc := 0) dX4_init_0 0 rfl <|
cw_obj goX4 kco_1 kco_2 (pc := 1) dX4_init_1 (by decide) (by decide) <|
cw_aload_n (pc := 4) dX4_init_4 0 rfl <|
cw_bipush (v := 7) (pc := 5) dX4_init_5 (by decide) <|
cw_bipush (v := 7) (pc := 7) dX4_init_7 (by decide) <|
lf_mna (N := 7) (M := 7) kco_ff kco_ar (pc := 9) dX4_init_9 (by decide) (by decide) rfl rfl (by decide) (by decide) (by decide) (by rw [hR]; exact Nat.le_of_ble_eq_true rfl) (by rw [hR]; exact Nat.le_of_ble_eq_true rfl) <|
lf_put (ty := .array (.array .int)) hol cfX4 (by decide) glX4_11 rfl hM rfl (by decide +kernel) rfl rfl (Nat.le_of_ble_eq_true rfl) (pc := 13) dX4_init_13 <|
cw_aload_n (pc := 16) dX4_init_16 0 rfl <|
cw_sipush (v := 128) (pc := 17) dX4_init_17 (by decide) <|
lf_newa (N := 128) kco_ar (pc := 20) dX4_init_20 (by decide) rfl (by decide) (by rw [hR]; exact Nat.le_of_ble_eq_true rfl) (by rw [hR]; exact Nat.le_of_ble_eq_true rfl) <|
lf_put (ty := .array .int) hol cfX4 (by decide) glX4_16 rfl hM rfl (by decide +kernel) rfl rfl (Nat.le_of_ble_eq_true rfl) (pc := 22) dX4_init_22 <|
cw_aload_n (pc := 25) dX4_init_25 0 rfl <|
cw_aload_n (pc := 26) dX4_init_26 1 rfl <|
lf_put (ty := .object "RubberBandsHoldFamilies$Town") hol cfX4 (by decide) glX4_20 rfl hM rfl (by decide +kernel) rfl rfl (Nat.le_of_ble_eq_true rfl) (pc := 27) dX4_init_27 <|
cw_aload_n (pc := 30) dX4_init_30 0 rfl <|
cw_aload_n (pc := 31) dX4_init_31 2 rfl <|
lf_put (ty := .object "RubberBandsHoldFamilies$Town") hol cfX4 (by decide) glX4_24 rfl hM rfl (by decide +kernel) rfl rfl (Nat.le_of_ble_eq_true rfl) (pc := 32) dX4_init_32 <|
cw_ret hH (pc := 35) dX4_init_35)
set_option maxHeartbeats 4000000 in
theorem tX9_init (l : Launch) (G : pw_G) (N0 o : Nat) (t1 : Nat) (t2 : Nat) {es : List va_E} (ho : es[o]? = some (.inr (7, [.null, .null]))) : CMet l G N0 yX9_init cX9_init 3 1 0 0 [.ref (N0 + o), .ref t1, .ref t2] es (es.set o (.inr (7, [.ref t1, .ref t2])) ++ []) :=
  cw_met (own := RX9) (l0 := [(0, .ref (N0 + o)), (1, .ref t1), (2, .ref t2)]) rfl (by decide) rfl rfl (Nat.le_of_ble_eq_true rfl) (Nat.lt_of_le_of_lt (Nat.zero_le o) (List.getElem?_eq_some_iff.mp ho).1) fun K hK hH hM hR => by
  have hol := (List.getElem?_eq_some_iff.mp ho).1
  exact (lf_start ho <|
cw_aload_n (pc := 0) dX9_init_0 0 rfl <|
cw_obj goX9 kco_1 kco_2 (pc := 1) dX9_init_1 (by decide) (by decide) <|
cw_aload_n (pc := 4) dX9_init_4 0 rfl <|
cw_aload_n (pc := 5) dX9_init_5 1 rfl <|
lf_put (ty := .object "RubberBandsHoldFamilies$Town") hol cfX9 (by decide) glX9_9 rfl hM rfl (by decide +kernel) rfl rfl (Nat.le_of_ble_eq_true rfl) (pc := 6) dX9_init_6 <|
cw_aload_n (pc := 9) dX9_init_9 0 rfl <|
cw_aload_n (pc := 10) dX9_init_10 2 rfl <|
lf_put (ty := .object "RubberBandsHoldFamilies$Town") hol cfX9 (by decide) glX9_15 rfl hM rfl (by decide +kernel) rfl rfl (Nat.le_of_ble_eq_true rfl) (pc := 11) dX9_init_11 <|
cw_ret hH (pc := 14) dX9_init_14)
set_option maxHeartbeats 4000000 in
theorem tX6_init (l : Launch) (G : pw_G) (N0 o : Nat) (t1 : Nat) {es : List va_E} (ho : es[o]? = some (.inr (5, [.null, .null]))) : CMet l G N0 yX6_init cX6_init 2 1 1 10 [.ref (N0 + o), .ref t1] es (es.set o (.inr (5, [.ref t1, .ref (N0 + (es.length + 0))])) ++ [.inl (G.2.1, 10, .inl (fun _ => 0))]) :=
  cw_met (own := RX6) (l0 := [(0, .ref (N0 + o)), (1, .ref t1)]) rfl (by decide) rfl rfl (Nat.le_of_ble_eq_true rfl) (Nat.lt_of_le_of_lt (Nat.zero_le o) (List.getElem?_eq_some_iff.mp ho).1) fun K hK hH hM hR => by
  have hol := (List.getElem?_eq_some_iff.mp ho).1
  exact (lf_start ho <|
cw_aload_n (pc := 0) dX6_init_0 0 rfl <|
cw_obj goX6 kco_1 kco_2 (pc := 1) dX6_init_1 (by decide) (by decide) <|
cw_aload_n (pc := 4) dX6_init_4 0 rfl <|
cw_bipush (v := 10) (pc := 5) dX6_init_5 (by decide) <|
lf_newa (N := 10) kco_ar (pc := 7) dX6_init_7 (by decide) rfl (by decide) (by rw [hR]; exact Nat.le_of_ble_eq_true rfl) (by rw [hR]; exact Nat.le_of_ble_eq_true rfl) <|
lf_put (ty := .array .int) hol cfX6 (by decide) glX6_9 rfl hM rfl (by decide +kernel) rfl rfl (Nat.le_of_ble_eq_true rfl) (pc := 9) dX6_init_9 <|
cw_aload_n (pc := 12) dX6_init_12 0 rfl <|
cw_aload_n (pc := 13) dX6_init_13 1 rfl <|
lf_put (ty := .object "RubberBandsHoldFamilies$Town") hol cfX6 (by decide) glX6_15 rfl hM rfl (by decide +kernel) rfl rfl (Nat.le_of_ble_eq_true rfl) (pc := 14) dX6_init_14 <|
cw_ret hH (pc := 17) dX6_init_17)
set_option maxHeartbeats 4000000 in
theorem tX0_init (l : Launch) (G : pw_G) (N0 o : Nat) (t1 : Nat) {es : List va_E} (ho : es[o]? = some (.inr (0, [.null]))) : CMet l G N0 yX0_init cX0_init 2 1 0 0 [.ref (N0 + o), .ref t1] es (es.set o (.inr (0, [.ref t1])) ++ []) :=
  cw_met (own := RX0) (l0 := [(0, .ref (N0 + o)), (1, .ref t1)]) rfl (by decide) rfl rfl (Nat.le_of_ble_eq_true rfl) (Nat.lt_of_le_of_lt (Nat.zero_le o) (List.getElem?_eq_some_iff.mp ho).1) fun K hK hH hM hR => by
  have hol := (List.getElem?_eq_some_iff.mp ho).1
  exact (lf_start ho <|
cw_aload_n (pc := 0) dX0_init_0 0 rfl <|
cw_obj goX0 kco_1 kco_2 (pc := 1) dX0_init_1 (by decide) (by decide) <|
cw_aload_n (pc := 4) dX0_init_4 0 rfl <|
cw_aload_n (pc := 5) dX0_init_5 1 rfl <|
lf_put (ty := .object "RubberBandsHoldFamilies$Town") hol cfX0 (by decide) glX0_9 rfl hM rfl (by decide +kernel) rfl rfl (Nat.le_of_ble_eq_true rfl) (pc := 6) dX0_init_6 <|
cw_ret hH (pc := 9) dX0_init_9)
set_option maxHeartbeats 4000000 in
theorem tX2_init (l : Launch) (G : pw_G) (N0 o : Nat) (t1 : Nat) (t2 : Nat) {es : List va_E} (ho : es[o]? = some (.inr (2, [.null, .null, .null]))) : CMet l G N0 yX2_init cX2_init 3 1 1 10 [.ref (N0 + o), .ref t1, .ref t2] es (es.set o (.inr (2, [.ref t1, .ref t2, .ref (N0 + (es.length + 0))])) ++ [.inl (G.2.1, 10, .inl (fun _ => 0))]) :=
  cw_met (own := RX2) (l0 := [(0, .ref (N0 + o)), (1, .ref t1), (2, .ref t2)]) rfl (by decide) rfl rfl (Nat.le_of_ble_eq_true rfl) (Nat.lt_of_le_of_lt (Nat.zero_le o) (List.getElem?_eq_some_iff.mp ho).1) fun K hK hH hM hR => by
  have hol := (List.getElem?_eq_some_iff.mp ho).1
  exact (lf_start ho <|
cw_aload_n (pc := 0) dX2_init_0 0 rfl <|
cw_obj goX2 kco_1 kco_2 (pc := 1) dX2_init_1 (by decide) (by decide) <|
cw_aload_n (pc := 4) dX2_init_4 0 rfl <|
cw_bipush (v := 10) (pc := 5) dX2_init_5 (by decide) <|
lf_newa (N := 10) kco_ar (pc := 7) dX2_init_7 (by decide) rfl (by decide) (by rw [hR]; exact Nat.le_of_ble_eq_true rfl) (by rw [hR]; exact Nat.le_of_ble_eq_true rfl) <|
lf_put (ty := .array .int) hol cfX2 (by decide) glX2_9 rfl hM rfl (by decide +kernel) rfl rfl (Nat.le_of_ble_eq_true rfl) (pc := 9) dX2_init_9 <|
cw_aload_n (pc := 12) dX2_init_12 0 rfl <|
cw_aload_n (pc := 13) dX2_init_13 1 rfl <|
lf_put (ty := .object "RubberBandsHoldFamilies$Town") hol cfX2 (by decide) glX2_15 rfl hM rfl (by decide +kernel) rfl rfl (Nat.le_of_ble_eq_true rfl) (pc := 14) dX2_init_14 <|
cw_aload_n (pc := 17) dX2_init_17 0 rfl <|
cw_aload_n (pc := 18) dX2_init_18 2 rfl <|
lf_put (ty := .object "RubberBandsHoldFamilies$Town") hol cfX2 (by decide) glX2_19 rfl hM rfl (by decide +kernel) rfl rfl (Nat.le_of_ble_eq_true rfl) (pc := 19) dX2_init_19 <|
cw_ret hH (pc := 22) dX2_init_22)
set_option maxHeartbeats 4000000 in
theorem tX1_init (l : Launch) (G : pw_G) (N0 o : Nat) (t1 : Nat) (t2 : Nat) {es : List va_E} (ho : es[o]? = some (.inr (1, [.null, .null, .int 0]))) : CMet l G N0 yX1_init cX1_init 3 1 0 0 [.ref (N0 + o), .ref t1, .ref t2] es (es.set o (.inr (1, [.ref t1, .ref t2, .int 0])) ++ []) :=
  cw_met (own := RX1) (l0 := [(0, .ref (N0 + o)), (1, .ref t1), (2, .ref t2)]) rfl (by decide) rfl rfl (Nat.le_of_ble_eq_true rfl) (Nat.lt_of_le_of_lt (Nat.zero_le o) (List.getElem?_eq_some_iff.mp ho).1) fun K hK hH hM hR => by
  have hol := (List.getElem?_eq_some_iff.mp ho).1
  exact (lf_start ho <|
cw_aload_n (pc := 0) dX1_init_0 0 rfl <|
cw_obj goX1 kco_1 kco_2 (pc := 1) dX1_init_1 (by decide) (by decide) <|
cw_aload_n (pc := 4) dX1_init_4 0 rfl <|
cw_aload_n (pc := 5) dX1_init_5 1 rfl <|
lf_put (ty := .object "RubberBandsHoldFamilies$Town") hol cfX1 (by decide) glX1_9 rfl hM rfl (by decide +kernel) rfl rfl (Nat.le_of_ble_eq_true rfl) (pc := 6) dX1_init_6 <|
cw_aload_n (pc := 9) dX1_init_9 0 rfl <|
cw_aload_n (pc := 10) dX1_init_10 2 rfl <|
lf_put (ty := .object "RubberBandsHoldFamilies$Town") hol cfX1 (by decide) glX1_15 rfl hM rfl (by decide +kernel) rfl rfl (Nat.le_of_ble_eq_true rfl) (pc := 11) dX1_init_11 <|
cw_ret hH (pc := 14) dX1_init_14)
set_option maxHeartbeats 4000000 in
theorem tX11_init (l : Launch) (G : pw_G) (N0 o : Nat) {es : List va_E} (ho : es[o]? = some (.inr (9, [.null, .null, .null, .null, .null, .int 0, .int 0, .int 0, .int 0, .null, .null, .null, .int 0, .int 0, .int 0, .null, .null, .null, .null, .null, .null, .int 0]))) : CMet l G N0 yX11_init cX11_init 1 1 14 1248 [.ref (N0 + o)] es (es.set o (.inr (9, [.ref (N0 + (es.length + 0)), .ref (N0 + (es.length + 1)), .ref (N0 + (es.length + 2)), .ref (N0 + (es.length + 3)), .ref (N0 + (es.length + 4)), .int 0, .int 0, .int 0, .int 0, .ref (N0 + (es.length + 5)), .ref (N0 + (es.length + 6)), .ref (N0 + (es.length + 7)), .int 0, .int 0, .int 0, .ref (N0 + (es.length + 8)), .ref (N0 + (es.length + 9)), .ref (N0 + (es.length + 10)), .ref (N0 + (es.length + 11)), .ref (N0 + (es.length + 12)), .ref (N0 + (es.length + 13)), .int 0])) ++ [.inl (G.2.1, 78, .inl (fun _ => 0)), .inl (G.2.1, 78, .inl (fun _ => 0)), .inl (G.2.1, 78, .inl (fun _ => 0)), .inl (G.2.1, 78, .inl (fun _ => 0)), .inl (G.2.1, 78, .inl (fun _ => 0)), .inl (G.2.1, 4, .inl (fun _ => 0)), .inl (G.2.1, 7, .inl (fun _ => 0)), .inl (G.2.1, 7, .inl (fun _ => 0)), .inl (G.2.1, 8, .inl (fun _ => 0)), .inl (G.2.1, 8, .inl (fun _ => 0)), .inl (G.2.1, 8, .inl (fun _ => 0)), .inl (G.2.1, 8, .inl (fun _ => 0)), .inl (G.2.1, 8, .inl (fun _ => 0)), .inl (G.2.1, 800, .inl (fun _ => 0))]) :=
  cw_met (own := RX11) (l0 := [(0, .ref (N0 + o))]) rfl (by decide) rfl rfl (Nat.le_of_ble_eq_true rfl) (Nat.lt_of_le_of_lt (Nat.zero_le o) (List.getElem?_eq_some_iff.mp ho).1) fun K hK hH hM hR => by
  have hol := (List.getElem?_eq_some_iff.mp ho).1
  exact (lf_start ho <|
cw_aload_n (pc := 0) dX11_init_0 0 rfl <|
cw_obj goX11 kco_1 kco_2 (pc := 1) dX11_init_1 (by decide) (by decide) <|
cw_aload_n (pc := 4) dX11_init_4 0 rfl <|
cw_bipush (v := 78) (pc := 5) dX11_init_5 (by decide) <|
lf_newa (N := 78) kco_ar (pc := 7) dX11_init_7 (by decide) rfl (by decide) (by rw [hR]; exact Nat.le_of_ble_eq_true rfl) (by rw [hR]; exact Nat.le_of_ble_eq_true rfl) <|
lf_put (ty := .array .int) hol cfX11 (by decide) glX11_9 rfl hM rfl (by decide +kernel) rfl rfl (Nat.le_of_ble_eq_true rfl) (pc := 9) dX11_init_9 <|
cw_aload_n (pc := 12) dX11_init_12 0 rfl <|
cw_bipush (v := 78) (pc := 13) dX11_init_13 (by decide) <|
lf_newa (N := 78) kco_ar (pc := 15) dX11_init_15 (by decide) rfl (by decide) (by rw [hR]; exact Nat.le_of_ble_eq_true rfl) (by rw [hR]; exact Nat.le_of_ble_eq_true rfl) <|
lf_put (ty := .array .int) hol cfX11 (by decide) glX11_13 rfl hM rfl (by decide +kernel) rfl rfl (Nat.le_of_ble_eq_true rfl) (pc := 17) dX11_init_17 <|
cw_aload_n (pc := 20) dX11_init_20 0 rfl <|
cw_bipush (v := 78) (pc := 21) dX11_init_21 (by decide) <|
lf_newa (N := 78) kco_ar (pc := 23) dX11_init_23 (by decide) rfl (by decide) (by rw [hR]; exact Nat.le_of_ble_eq_true rfl) (by rw [hR]; exact Nat.le_of_ble_eq_true rfl) <|
lf_put (ty := .array .int) hol cfX11 (by decide) glX11_16 rfl hM rfl (by decide +kernel) rfl rfl (Nat.le_of_ble_eq_true rfl) (pc := 25) dX11_init_25 <|
cw_aload_n (pc := 28) dX11_init_28 0 rfl <|
cw_bipush (v := 78) (pc := 29) dX11_init_29 (by decide) <|
lf_newa (N := 78) kco_ar (pc := 31) dX11_init_31 (by decide) rfl (by decide) (by rw [hR]; exact Nat.le_of_ble_eq_true rfl) (by rw [hR]; exact Nat.le_of_ble_eq_true rfl) <|
lf_put (ty := .array .int) hol cfX11 (by decide) glX11_19 rfl hM rfl (by decide +kernel) rfl rfl (Nat.le_of_ble_eq_true rfl) (pc := 33) dX11_init_33 <|
cw_aload_n (pc := 36) dX11_init_36 0 rfl <|
cw_bipush (v := 78) (pc := 37) dX11_init_37 (by decide) <|
lf_newa (N := 78) kco_ar (pc := 39) dX11_init_39 (by decide) rfl (by decide) (by rw [hR]; exact Nat.le_of_ble_eq_true rfl) (by rw [hR]; exact Nat.le_of_ble_eq_true rfl) <|
lf_put (ty := .array .int) hol cfX11 (by decide) glX11_22 rfl hM rfl (by decide +kernel) rfl rfl (Nat.le_of_ble_eq_true rfl) (pc := 41) dX11_init_41 <|
cw_aload_n (pc := 44) dX11_init_44 0 rfl <|
cw_iconst (v := 4) (pc := 45) dX11_init_45 (by decide) <|
lf_newa (N := 4) kco_ar (pc := 46) dX11_init_46 (by decide) rfl (by decide) (by rw [hR]; exact Nat.le_of_ble_eq_true rfl) (by rw [hR]; exact Nat.le_of_ble_eq_true rfl) <|
lf_put (ty := .array .int) hol cfX11 (by decide) glX11_25 rfl hM rfl (by decide +kernel) rfl rfl (Nat.le_of_ble_eq_true rfl) (pc := 48) dX11_init_48 <|
cw_aload_n (pc := 51) dX11_init_51 0 rfl <|
cw_bipush (v := 7) (pc := 52) dX11_init_52 (by decide) <|
lf_newa (N := 7) kco_ar (pc := 54) dX11_init_54 (by decide) rfl (by decide) (by rw [hR]; exact Nat.le_of_ble_eq_true rfl) (by rw [hR]; exact Nat.le_of_ble_eq_true rfl) <|
lf_put (ty := .array .int) hol cfX11 (by decide) glX11_28 rfl hM rfl (by decide +kernel) rfl rfl (Nat.le_of_ble_eq_true rfl) (pc := 56) dX11_init_56 <|
cw_aload_n (pc := 59) dX11_init_59 0 rfl <|
cw_bipush (v := 7) (pc := 60) dX11_init_60 (by decide) <|
lf_newa (N := 7) kco_ar (pc := 62) dX11_init_62 (by decide) rfl (by decide) (by rw [hR]; exact Nat.le_of_ble_eq_true rfl) (by rw [hR]; exact Nat.le_of_ble_eq_true rfl) <|
lf_put (ty := .array .int) hol cfX11 (by decide) glX11_31 rfl hM rfl (by decide +kernel) rfl rfl (Nat.le_of_ble_eq_true rfl) (pc := 64) dX11_init_64 <|
cw_aload_n (pc := 67) dX11_init_67 0 rfl <|
cw_bipush (v := 8) (pc := 68) dX11_init_68 (by decide) <|
lf_newa (N := 8) kco_ar (pc := 70) dX11_init_70 (by decide) rfl (by decide) (by rw [hR]; exact Nat.le_of_ble_eq_true rfl) (by rw [hR]; exact Nat.le_of_ble_eq_true rfl) <|
lf_put (ty := .array .int) hol cfX11 (by decide) glX11_34 rfl hM rfl (by decide +kernel) rfl rfl (Nat.le_of_ble_eq_true rfl) (pc := 72) dX11_init_72 <|
cw_aload_n (pc := 75) dX11_init_75 0 rfl <|
cw_bipush (v := 8) (pc := 76) dX11_init_76 (by decide) <|
lf_newa (N := 8) kco_ar (pc := 78) dX11_init_78 (by decide) rfl (by decide) (by rw [hR]; exact Nat.le_of_ble_eq_true rfl) (by rw [hR]; exact Nat.le_of_ble_eq_true rfl) <|
lf_put (ty := .array .int) hol cfX11 (by decide) glX11_37 rfl hM rfl (by decide +kernel) rfl rfl (Nat.le_of_ble_eq_true rfl) (pc := 80) dX11_init_80 <|
cw_aload_n (pc := 83) dX11_init_83 0 rfl <|
cw_bipush (v := 8) (pc := 84) dX11_init_84 (by decide) <|
lf_newa (N := 8) kco_ar (pc := 86) dX11_init_86 (by decide) rfl (by decide) (by rw [hR]; exact Nat.le_of_ble_eq_true rfl) (by rw [hR]; exact Nat.le_of_ble_eq_true rfl) <|
lf_put (ty := .array .int) hol cfX11 (by decide) glX11_40 rfl hM rfl (by decide +kernel) rfl rfl (Nat.le_of_ble_eq_true rfl) (pc := 88) dX11_init_88 <|
cw_aload_n (pc := 91) dX11_init_91 0 rfl <|
cw_bipush (v := 8) (pc := 92) dX11_init_92 (by decide) <|
lf_newa (N := 8) kco_ar (pc := 94) dX11_init_94 (by decide) rfl (by decide) (by rw [hR]; exact Nat.le_of_ble_eq_true rfl) (by rw [hR]; exact Nat.le_of_ble_eq_true rfl) <|
lf_put (ty := .array .int) hol cfX11 (by decide) glX11_43 rfl hM rfl (by decide +kernel) rfl rfl (Nat.le_of_ble_eq_true rfl) (pc := 96) dX11_init_96 <|
cw_aload_n (pc := 99) dX11_init_99 0 rfl <|
cw_bipush (v := 8) (pc := 100) dX11_init_100 (by decide) <|
lf_newa (N := 8) kco_ar (pc := 102) dX11_init_102 (by decide) rfl (by decide) (by rw [hR]; exact Nat.le_of_ble_eq_true rfl) (by rw [hR]; exact Nat.le_of_ble_eq_true rfl) <|
lf_put (ty := .array .int) hol cfX11 (by decide) glX11_46 rfl hM rfl (by decide +kernel) rfl rfl (Nat.le_of_ble_eq_true rfl) (pc := 104) dX11_init_104 <|
cw_aload_n (pc := 107) dX11_init_107 0 rfl <|
cw_sipush (v := 800) (pc := 108) dX11_init_108 (by decide) <|
lf_newa (N := 800) kco_ar (pc := 111) dX11_init_111 (by decide) rfl (by decide) (by rw [hR]; exact Nat.le_of_ble_eq_true rfl) (by rw [hR]; exact Nat.le_of_ble_eq_true rfl) <|
lf_put (ty := .array .int) hol cfX11 (by decide) glX11_49 rfl hM rfl (by decide +kernel) rfl rfl (Nat.le_of_ble_eq_true rfl) (pc := 113) dX11_init_113 <|
cw_ret hH (pc := 116) dX11_init_116)
