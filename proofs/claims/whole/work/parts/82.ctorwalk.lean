/-! THE WALK OF A CONSTRUCTOR: n cells, k slots are used -/
set_option maxRecDepth 100000
def cw_C (K : pw_K) (G : pw_G) (N0 : Nat) (own : String) (cc : ByteArray) (nL : Nat) (ret : Option FieldType) (d : Nat) : Prop :=
  K.1.tables.exec = Jvm.exec ∧ K.2.2.2.2.2.2.2.2.2.1.code = cc ∧ K.2.2.2.2.2.2.2.2.2.1.maxLocals = nL ∧ K.2.2.2.2.1.vm.findClass own = some K.2.2.2.2.2.1.cls ∧ pw_T K.2.2.2.2.1 ∧ va_K G.1 vwCl (pw_tys G) K.2.2.2.2.1 ∧ N0 ≤ K.2.2.2.2.2.2.2.2.2.2.2.2.size ∧
  K.2.2.2.2.2.2.2.2.1.locks = false ∧ K.2.2.2.2.2.2.2.2.1.sig.returnType = ret ∧ (d ≤ K.2.2.2.1.frames ∧ 60 * d ≤ K.2.2.2.1.locals) ∧ va_AO RX5 K.2.2.2.2.1 ∧ va_AOA .int K.2.2.2.2.1
def CW (K : pw_K) (G : pw_G) (N0 : Nat) (own : String) (cc : ByteArray) (nL : Nat) (ret : Option FieldType) (d : Nat) (Q : State → Prop) (pc : Nat) (l : List (Nat × Value)) (st : List Value) (es : List va_E) (n k : Nat) : Prop :=
  cw_C K G N0 own cc nL ret d → ∀ (H : Heap) (locs : List Loc) (ls : Array Slot), lv_has ls nL l → cP G N0 es H → va_S (fun q => N0 ≤ q) K.2.2.2.2.2.2.2.2.2.2.2.2 H locs → W K.1 K.2.1 K.2.2.1 K.2.2.2.1 K.2.2.2.2.1 K.2.2.2.2.2.1 K.2.2.2.2.2.2.1 K.2.2.2.2.2.2.2.1 K.2.2.2.2.2.2.2.2.1 K.2.2.2.2.2.2.2.2.2.1 H locs n k Q (F0 K.2.2.2.2.2.1 pc ls st)
theorem cw_aload_n {K : pw_K} {G : pw_G} {N0 : Nat} {own : String} {cc : ByteArray} {nL : Nat} {ret : Option FieldType} {d : Nat} {Q : State → Prop} {pc : Nat} {l : List (Nat × Value)} {st : List Value} {es : List va_E} {n k : Nat} {i : Fin 4} {v : Nat} (dg : decode cc pc = .ok (.aload_n i, 1)) (j : Nat) (hj : l[j]? = some ((i : Nat), .ref v)) (h : CW K G N0 own cc nL ret d Q (pc + 1) l (.ref v :: st) es n k) : CW K G N0 own cc nL ret d Q pc l st es n k := fun C H locs ls hl hP hS => lv_aload_n C.1 C.2.1 dg rfl (lv_at hl j hj) (h C H locs ls hl hP hS)
theorem cw_iload_n {K : pw_K} {G : pw_G} {N0 : Nat} {own : String} {cc : ByteArray} {nL : Nat} {ret : Option FieldType} {d : Nat} {Q : State → Prop} {pc : Nat} {l : List (Nat × Value)} {st : List Value} {es : List va_E} {n k : Nat} {i : Fin 4} {v : Int32} (dg : decode cc pc = .ok (.iload_n i, 1)) (j : Nat) (hj : l[j]? = some ((i : Nat), .int v)) (h : CW K G N0 own cc nL ret d Q (pc + 1) l (.int v :: st) es n k) : CW K G N0 own cc nL ret d Q pc l st es n k := fun C H locs ls hl hP hS => lv_iload_n C.1 C.2.1 dg rfl (lv_at hl j hj) (h C H locs ls hl hP hS)
theorem cw_dup {K : pw_K} {G : pw_G} {N0 : Nat} {own : String} {cc : ByteArray} {nL : Nat} {ret : Option FieldType} {d : Nat} {Q : State → Prop} {pc : Nat} {l : List (Nat × Value)} {st : List Value} {es : List va_E} {n k : Nat} {v : Value} (dg : decode cc pc = .ok (.dup, 1)) (hv : v.category = 1) (h : CW K G N0 own cc nL ret d Q (pc + 1) l (v :: v :: st) es n k) : CW K G N0 own cc nL ret d Q pc l (v :: st) es n k := fun C H locs ls hl hP hS => lv_dup C.1 C.2.1 dg hv (h C H locs ls hl hP hS)
theorem cw_bipush {K : pw_K} {G : pw_G} {N0 : Nat} {own : String} {cc : ByteArray} {nL : Nat} {ret : Option FieldType} {d : Nat} {Q : State → Prop} {pc : Nat} {l : List (Nat × Value)} {st : List Value} {es : List va_E} {n k : Nat} {z : Int} {v : Int32} (dg : decode cc pc = .ok (.bipush z, 2)) (hv : (Int8.ofInt z).toInt32 = v) (h : CW K G N0 own cc nL ret d Q (pc + 2) l (.int v :: st) es n k) : CW K G N0 own cc nL ret d Q pc l st es n k := fun C H locs ls hl hP hS => lv_bipush C.1 C.2.1 dg hv (h C H locs ls hl hP hS)
theorem cw_sipush {K : pw_K} {G : pw_G} {N0 : Nat} {own : String} {cc : ByteArray} {nL : Nat} {ret : Option FieldType} {d : Nat} {Q : State → Prop} {pc : Nat} {l : List (Nat × Value)} {st : List Value} {es : List va_E} {n k : Nat} {z : Int} {v : Int32} (dg : decode cc pc = .ok (.sipush z, 3)) (hv : (Int16.ofInt z).toInt32 = v) (h : CW K G N0 own cc nL ret d Q (pc + 3) l (.int v :: st) es n k) : CW K G N0 own cc nL ret d Q pc l st es n k := fun C H locs ls hl hP hS => lv_sipush C.1 C.2.1 dg hv (h C H locs ls hl hP hS)
theorem cw_iconst {K : pw_K} {G : pw_G} {N0 : Nat} {own : String} {cc : ByteArray} {nL : Nat} {ret : Option FieldType} {d : Nat} {Q : State → Prop} {pc : Nat} {l : List (Nat × Value)} {st : List Value} {es : List va_E} {n k : Nat} {z : Int} {v : Int32} (dg : decode cc pc = .ok (.iconst z, 1)) (hv : Int32.ofInt z = v) (h : CW K G N0 own cc nL ret d Q (pc + 1) l (.int v :: st) es n k) : CW K G N0 own cc nL ret d Q pc l st es n k := fun C H locs ls hl hP hS => lv_iconst C.1 C.2.1 dg hv (h C H locs ls hl hP hS)
theorem cw_goto {K : pw_K} {G : pw_G} {N0 : Nat} {own : String} {cc : ByteArray} {nL : Nat} {ret : Option FieldType} {d : Nat} {Q : State → Prop} {pc : Nat} {l : List (Nat × Value)} {st : List Value} {es : List va_E} {n k : Nat} {off : Int} {tgt : Nat} (dg : decode cc pc = .ok (.goto off, 3)) (ht : (pc : Int) + off = (tgt : Int)) (h : CW K G N0 own cc nL ret d Q tgt l st es n k) : CW K G N0 own cc nL ret d Q pc l st es n k := fun C H locs ls hl hP hS => lv_goto C.1 C.2.1 dg ht (h C H locs ls hl hP hS)
theorem cw_istore_n {K : pw_K} {G : pw_G} {N0 : Nat} {own : String} {cc : ByteArray} {nL : Nat} {ret : Option FieldType} {d : Nat} {Q : State → Prop} {pc : Nat} {l : List (Nat × Value)} {st : List Value} {es : List va_E} {n k : Nat} {i : Fin 4} {v : Int32} (l' : List (Nat × Value)) (dg : decode cc pc = .ok (.istore_n i, 1)) (hn : (i : Nat) < nL) (hl' : ((i : Nat), Value.int v) :: l.filter (fun q => !(q.1 == (i : Nat)) && !(q.1 + 1 == (i : Nat) && q.2.category == 2)) = l') (h : CW K G N0 own cc nL ret d Q (pc + 1) l' st es n k) : CW K G N0 own cc nL ret d Q pc l (.int v :: st) es n k := fun C H locs ls hl hP hS => lv_istore_n C.1 C.2.1 dg rfl hl hn hl' (fun ls2 hl2 => h C H locs ls2 hl2 hP hS)
theorem cw_astore_n {K : pw_K} {G : pw_G} {N0 : Nat} {own : String} {cc : ByteArray} {nL : Nat} {ret : Option FieldType} {d : Nat} {Q : State → Prop} {pc : Nat} {l : List (Nat × Value)} {st : List Value} {es : List va_E} {n k : Nat} {i : Fin 4} {v : Nat} (l' : List (Nat × Value)) (dg : decode cc pc = .ok (.astore_n i, 1)) (hn : (i : Nat) < nL) (hl' : ((i : Nat), Value.ref v) :: l.filter (fun q => !(q.1 == (i : Nat)) && !(q.1 + 1 == (i : Nat) && q.2.category == 2)) = l') (h : CW K G N0 own cc nL ret d Q (pc + 1) l' st es n k) : CW K G N0 own cc nL ret d Q pc l (.ref v :: st) es n k := fun C H locs ls hl hP hS => lv_astore_n C.1 C.2.1 dg rfl hl hn hl' (fun ls2 hl2 => h C H locs ls2 hl2 hP hS)
theorem cw_istore {K : pw_K} {G : pw_G} {N0 : Nat} {own : String} {cc : ByteArray} {nL : Nat} {ret : Option FieldType} {d : Nat} {Q : State → Prop} {pc : Nat} {l : List (Nat × Value)} {st : List Value} {es : List va_E} {n k : Nat} {i : Nat} {v : Int32} (l' : List (Nat × Value)) (dg : decode cc pc = .ok (.istore i, 2)) (hn : i < nL) (hl' : (i, Value.int v) :: l.filter (fun q => !(q.1 == i) && !(q.1 + 1 == i && q.2.category == 2)) = l') (h : CW K G N0 own cc nL ret d Q (pc + 2) l' st es n k) : CW K G N0 own cc nL ret d Q pc l (.int v :: st) es n k := fun C H locs ls hl hP hS => lv_istore C.1 C.2.1 dg hl hn hl' (fun ls2 hl2 => h C H locs ls2 hl2 hP hS)
theorem cw_iinc {K : pw_K} {G : pw_G} {N0 : Nat} {own : String} {cc : ByteArray} {nL : Nat} {ret : Option FieldType} {d : Nat} {Q : State → Prop} {pc : Nat} {l : List (Nat × Value)} {st : List Value} {es : List va_E} {n k : Nat} {i : Nat} {z : Int} {a v : Int32} (l' : List (Nat × Value)) (dg : decode cc pc = .ok (.iinc i z, 3)) (j : Nat) (hj : l[j]? = some (i, .int a)) (hv : a + Int32.ofInt z = v) (hn : i < nL) (hl' : (i, Value.int v) :: l.filter (fun q => !(q.1 == i) && !(q.1 + 1 == i && q.2.category == 2)) = l') (h : CW K G N0 own cc nL ret d Q (pc + 3) l' st es n k) : CW K G N0 own cc nL ret d Q pc l st es n k := fun C H locs ls hl hP hS => lv_iinc C.1 C.2.1 dg hl hj hv hn hl' (fun ls2 hl2 => h C H locs ls2 hl2 hP hS)
theorem cw_ge {K : pw_K} {G : pw_G} {N0 : Nat} {own : String} {cc : ByteArray} {nL : Nat} {ret : Option FieldType} {d : Nat} {Q : State → Prop} {pc : Nat} {l : List (Nat × Value)} {st : List Value} {es : List va_E} {n k : Nat} {a b : Int32} {off : Int} {tgt : Nat} (dg : decode cc pc = .ok (.if_icmp .ge off, 3)) (ht : (pc : Int) + off = (tgt : Int)) (kt : b ≤ a → CW K G N0 own cc nL ret d Q tgt l st es n k) (kf : ¬ (b ≤ a) → CW K G N0 own cc nL ret d Q (pc + 3) l st es n k) : CW K G N0 own cc nL ret d Q pc l (.int b :: .int a :: st) es n k := fun C H locs ls hl hP hS => lv_icmp_ge C.1 C.2.1 dg ht (fun hc => kt hc C H locs ls hl hP hS) (fun hc => kf hc C H locs ls hl hP hS)
theorem cw_es {K : pw_K} {G : pw_G} {N0 : Nat} {own : String} {cc : ByteArray} {nL : Nat} {ret : Option FieldType} {d : Nat} {Q : State → Prop} {pc : Nat} {l : List (Nat × Value)} {st : List Value} {es : List va_E} {n k : Nat} {es2 : List va_E} {n2 k2 : Nat} (e : es = es2) (en : n = n2) (ek : k = k2) (h : CW K G N0 own cc nL ret d Q pc l st es2 n2 k2) : CW K G N0 own cc nL ret d Q pc l st es n k := by
  subst e; subst en; subst ek
  exact h
theorem cw_obj {K : pw_K} {G : pw_G} {N0 : Nat} {own : String} {cc : ByteArray} {nL : Nat} {ret : Option FieldType} {d : Nat} {Q : State → Prop} {pc : Nat} {l : List (Nat × Value)} {st : List Value} {es : List va_E} {n k : Nat} {i v : Nat} (hL : Cond.methodLink own i objectInit ∈ pw_LG) (h1 : Cond.instanceMethod objectInit ∈ pw_LG) (h2 : Cond.code objectInit ⟨#[0xb1]⟩ 1 none ∈ pw_LG) (dg : decode cc pc = .ok (.invokespecial i, 3)) (hd : 1 ≤ d) (hw : (st.map fun v => v.category).sum ≤ 8) (h : CW K G N0 own cc nL ret d Q (pc + 3) l st es n k) : CW K G N0 own cc nL ret d Q pc l (.ref v :: st) es n k := fun C H locs ls hl hP hS => by
  have hfr := C.2.2.2.2.2.2.2.2.2.1
  refine W.objInit C.1 C.2.1 C.2.2.2.1 (C.2.2.2.2.1.at _ hL) (C.2.2.2.2.1.at _ h1) (C.2.2.2.2.1.at _ h2) rfl (by rw [C.2.2.1]; exact hl.1) rfl dg (Nat.le_trans hd hfr.1) ?_ (W.eq (g2 := F0 K.2.2.2.2.2.1 (pc + 3) ls st) rfl (h C H locs ls hl hP hS))
  show 2 * 0 + (st.map fun v => v.category).sum + 12 ≤ _
  omega
theorem cw_S {K : pw_K} {N0 : Nat} {H H1 : Heap} {locs : List Loc} (h0 : N0 ≤ K.2.2.2.2.2.2.2.2.2.2.2.2.size) (hS : va_S (fun q => N0 ≤ q) K.2.2.2.2.2.2.2.2.2.2.2.2 H locs) (hz : H.size ≤ H1.size) (hk : ∀ q : Nat, q < H.size → ¬ N0 ≤ q → H1[q]? = H[q]?) {L : List Loc} (hL : ∀ z ∈ L, N0 ≤ z.base) : va_S (fun q => N0 ≤ q) K.2.2.2.2.2.2.2.2.2.2.2.2 H1 (locs ++ L) := ⟨Nat.le_trans hS.1 hz, fun q h1 h2 => (hk q (Nat.lt_of_lt_of_le h1 hS.1) h2).trans (hS.2.1 q h1 h2), fun z hz => by
  rcases List.mem_append.mp hz with h | h
  · exact hS.2.2 z h
  · exact hL z h⟩
theorem cw_newa {K : pw_K} {G : pw_G} {N0 : Nat} {own : String} {cc : ByteArray} {nL : Nat} {ret : Option FieldType} {d : Nat} {Q : State → Prop} {pc : Nat} {l : List (Nat × Value)} {st : List Value} {es : List va_E} {n k : Nat} {z : Int32} {N : Nat} (har : Cond.arrayClass .int ∈ pw_LG) (dg : decode cc pc = .ok (.newarray .int, 2)) (hn : ¬ z < 0) (hN : z.toNatClampNeg = N) (hb : N * 4 ≤ 536870912) (hc : n + 1 ≤ K.2.2.2.1.cells) (hs : k + N ≤ K.2.2.2.1.slots) (h : CW K G N0 own cc nL ret d Q (pc + 2) l (.ref (N0 + es.length) :: st) (es ++ [.inl (G.2.1, N, .inl (fun _ => 0))]) (n + 1) (k + N)) : CW K G N0 own cc nL ret d Q pc l (.int z :: st) es n k := fun C H locs ls hl hP hS => by
  refine va_newaK C.1 C.2.1 (atype := .int) (C.2.2.2.2.1.at _ har) rfl dg rfl hn hN hb hc hs rfl fun H1 cA e1 z1 o1 hAr hNm => ?_
  have hcI : K.2.2.2.2.1.vm.findClass ("[" ++ (FieldType.int).toString) = some G.2.1 := (C.2.2.2.2.2.1.2 0 _ rfl).2
  have e : cA = G.2.1 := Option.some.inj ((show K.2.2.2.2.1.vm.findClass ("[" ++ (FieldType.int).toString) = some cA from hNm).symm.trans hcI)
  subst e
  have hS2 := cw_S (H1 := H1) C.2.2.2.2.2.2.1 hS (by omega) (fun q h1 _ => o1 q h1) (L := []) (fun z hz => nomatch hz)
  rw [List.append_nil] at hS2
  have hP2 : cP G N0 (es ++ [.inl (G.2.1, N, .inl (fun _ => 0))]) H1 := cP_app hP z1 o1 (fun j e9 h9 => by
    match j, h9 with
    | 0, h9 => cases h9; exact e1
    | j + 1, h9 => simp at h9)
  have := h C H1 locs ls hl hP2 hS2
  rw [← hP.1] at this
  exact this
theorem cw_new {K : pw_K} {G : pw_G} {N0 : Nat} {own : String} {cc : ByteArray} {nL : Nat} {ret : Option FieldType} {d : Nat} {Q : State → Prop} {pc : Nat} {l : List (Nat × Value)} {st : List Value} {es : List va_E} {n k : Nat} {i N ci : Nat} {C9 : String} {T9 : u_T} {ty9 : Nat → FieldType} {fs : List Value} (hc : pw_CF ci C9 T9 N ty9) (hcl : Cond.classLink own i C9 ∈ pw_LG) (hin : Cond.instantiable C9 N ∈ pw_LG) (hini : Cond.initialized C9 ∈ pw_LG) (hfs : ∀ j, j < N → defaultValue (ty9 j) = vp_V fs j) (dg : decode cc pc = .ok (.new i, 3)) (hcc : n + 1 ≤ K.2.2.2.1.cells) (hss : k + N ≤ K.2.2.2.1.slots) (h : CW K G N0 own cc nL ret d Q (pc + 3) l (.ref (N0 + es.length) :: st) (es ++ [.inr (ci, fs)]) (n + 1) (k + N)) : CW K G N0 own cc nL ret d Q pc l st es n k := fun C H locs ls hl hP hS => by
  have hKn := C.2.2.2.2.2.1.1 ci _ hc.1
  refine W.newcK C.1 C.2.1 C.2.2.2.1 (C.2.2.2.2.1.at _ hcl) (C.2.2.2.2.1.at _ hin) (C.2.2.2.2.1.at _ hini) rfl dg hcc hss hKn.2.1 rfl fun H1 kC hkC e1 z1 o1 => ?_
  have hS2 := cw_S (H1 := H1) C.2.2.2.2.2.2.1 hS (by omega) (fun q h1 _ => o1 q h1) (L := []) (fun z hz => nomatch hz)
  rw [List.append_nil] at hS2
  have hP2 : cP G N0 (es ++ [.inr (ci, fs)]) H1 := cP_app hP z1 o1 (fun j e9 h9 => by
    match j, h9 with
    | 0, h9 =>
      cases h9
      exact ⟨_, hc.1, (u_born ty9 (C.2.2.2.2.1.at (a := K.2.2.2.2.2.2.1)) hc.2.1 hKn hkC e1 hc.2.2.1).to hfs⟩
    | j + 1, h9 => simp at h9)
  have := h C H1 locs ls hl hP2 hS2
  rw [← hP.1] at this
  exact this
theorem cw_putR {K : pw_K} {G : pw_G} {N0 : Nat} {own : String} {cc : ByteArray} {nL : Nat} {ret : Option FieldType} {d : Nat} {Q : State → Prop} {pc : Nat} {l : List (Nat × Value)} {st : List Value} {es : List va_E} {n k : Nat} {o v i j ci N : Nat} {C9 : String} {T9 : u_T} {ty9 : Nat → FieldType} {fs : List Value} {ty : FieldType} (ho : es[o]? = some (.inr (ci, fs))) (hc : pw_CF ci C9 T9 N ty9) (hj : j < N) (hL : pw_FL own i T9 j) (hfin : (T9 j).2.2.2 = true) (hin2 : K.2.2.2.2.2.2.2.2.1.name = "<init>") (hdecl : (T9 j).1 = own) (hd : parseFieldDescriptor (T9 j).2.2.1 = some ty) (hn : narrow ty (.ref v) = .ref v) (hfit : fits ty (.ref v) = true) (hl9 : j < fs.length) (dg : decode cc pc = .ok (.putfield i, 3)) (h : CW K G N0 own cc nL ret d Q (pc + 3) l st (es.set o (.inr (ci, fs.set j (.ref v)))) n k) : CW K G N0 own cc nL ret d Q pc l (.ref v :: .ref (N0 + o) :: st) es n k := fun C H locs ls hl hP hS => by
  have hts := C.2.2.2.2.1.at (a := K.2.2.2.2.2.2.1)
  have hap := va_apart (own := own) hts hc.2.1 ty9 hc.2.2.1 hc.2.2.2 C.2.2.2.2.2.1 hc.1
  obtain ⟨r, h1, cell, q1, q2, q3, q4⟩ := hP.2 o _ (hw_at ho)
  have hr : r = (C9, T9, N) := Option.some.inj (h1.symm.trans hc.1)
  subst hr
  obtain ⟨hSl, hfc, kC, hkC, hkind⟩ := C.2.2.2.2.2.1.1 ci _ hc.1
  obtain ⟨cf, kf, fi, f, hi, hsl⟩ := hSl j hj
  have hlay := hts _ (hc.2.1 _ (u_in_lay hj))
  unfold u_lay at hlay
  rw [if_pos hfin] at hlay
  have hst := (u_facts hfc hkC (u_lays hts hc.2.1 hj) hi).1
  have hcf : K.2.2.2.2.2.1.cls = cf := by
    obtain ⟨_, _, c', _, _, _, -, -, hf', -, -, -, hown2, -⟩ := Cond.laysFinal_spec hlay
    have e1 : c' = cf := by have := hi.symm.trans hf'; simp at this; exact this.1.symm
    rw [hdecl] at hown2
    rw [← e1]; exact Option.some.inj (C.2.2.2.1.symm.trans hown2)
  have h6 := u_fits hfc hkC hkind (Or.inr hlay) hi hd hn hfit
  refine W.putFinK C.1 C.2.1 C.2.2.2.1 (hts _ hL) hi hst hcf hin2 (by rw [q2]; exact h6) q1 q3 (by rw [hsl]; exact k2_hasslot (q4 j hj)) rfl rfl dg fun H1 e1 e2 e3 => ?_
  rw [hsl] at e1 ⊢
  have hP2 : cP G N0 (es.set o (.inr (ci, fs.set j (.ref v)))) H1 := cP_set hP ho e2 ⟨_, hc.1, t_OB.to (V := updV (vp_V fs) j (.ref v)) ⟨_, e1, q2, q3, t_set q4 hap hj (.ref v)⟩ (fun j _ => vp_updV_set hl9 (.ref v) j)⟩ e3
  exact h C H1 _ ls hl hP2 (cw_S C.2.2.2.2.2.2.1 hS (by rw [e2]; exact Nat.le_refl _) (fun q _ h2 => e3 q (show q ≠ N0 + o by omega)) (fun z hz => by
    rw [List.mem_singleton.mp hz]
    exact Nat.le_add_right N0 o))
theorem cw_get {K : pw_K} {G : pw_G} {N0 : Nat} {own : String} {cc : ByteArray} {nL : Nat} {ret : Option FieldType} {d : Nat} {Q : State → Prop} {pc : Nat} {l : List (Nat × Value)} {st : List Value} {es : List va_E} {n k : Nat} {o i j ci N v : Nat} {C9 : String} {T9 : u_T} {ty9 : Nat → FieldType} {fs : List Value} (ho : es[o]? = some (.inr (ci, fs))) (hc : pw_CF ci C9 T9 N ty9) (hj : j < N) (hL : pw_FL own i T9 j) (hv : fs[j]? = some (.ref v)) (dg : decode cc pc = .ok (.getfield i, 3)) (h : CW K G N0 own cc nL ret d Q (pc + 3) l (.ref v :: st) es n k) : CW K G N0 own cc nL ret d Q pc l (.ref (N0 + o) :: st) es n k := fun C H locs ls hl hP hS =>
  va_get C.1 C.2.1 (C.2.2.2.2.1.at) hc.2.1 C.2.2.2.1 C.2.2.2.2.2.1 hP.2 o (hw_at ho) hc.1 j hj (C.2.2.2.2.1.at _ hL) (fun _ h9 => h9) hv dg (h C H locs ls hl hP hS)
/-- a constructor's contract: the cells before, the cells behind -/
def CMet (l : Launch) (G : pw_G) (N0 : Nat) (y : MethodName) (cc : ByteArray) (nL d mc ms : Nat) (av : List Value) (es es' : List va_E) : Prop :=
  Met l y [.code y cc nL none] { frames := d, cells := mc, slots := ms, locals := 60 * d } (va_Pc av (fun U => cP G N0 es U.heap ∧ va_K G.1 vwCl (pw_tys G) U ∧ pw_T U ∧ va_AO RX5 U ∧ va_AOA .int U)) (fun _ st oc t => oc = .returned none ∧ cP G N0 es' t.heap ∧ va_F (fun q => N0 ≤ q) st t) mc ms (fun q => N0 ≤ q)
theorem cw_blind {av : List Value} {G : pw_G} {N0 : Nat} {es : List va_E} : FrameBlind (va_Pc av (fun U => cP G N0 es U.heap ∧ va_K G.1 vwCl (pw_tys G) U ∧ pw_T U ∧ va_AO RX5 U ∧ va_AOA .int U)) := fun a U g mk h => ⟨h.1, h.2.1, va_K.moved (u := U) (U := U.calling g mk a) (Vm.Alike.refl U.vm) h.2.2.1, h.2.2.2.1.warm (s := U) (U := U.calling g mk a) (State.WarmedH.refl U), va_AO.moved (u := U) (U := U.calling g mk a) (Vm.Alike.refl U.vm) h.2.2.2.2.1, aoa_moved (u := U) (U := U.calling g mk a) (Vm.Alike.refl U.vm) h.2.2.2.2.2⟩
def cw_Q (K : pw_K) (G : pw_G) (N0 : Nat) (es' : List va_E) (mc ms : Nat) : State → Prop := MQ K.2.2.2.2.2.2.2.1 (fun _ st oc t => oc = .returned none ∧ cP G N0 es' t.heap ∧ va_F (fun q => N0 ≤ q) st t) K.2.2.2.2.2.2.1 K.2.2.2.2.1 mc ms (fun q => N0 ≤ q)
theorem cw_met {l : Launch} {G : pw_G} {N0 : Nat} {y : MethodName} {own : String} {cc : ByteArray} {nL d mc ms : Nat} {av : List Value} {es es' : List va_E} {l0 : List (Nat × Value)} (hown : y.cls = own) (hpl : plainName y.cls = true) (hni : y.name = "<init>") (hl0 : lv_args 0 av = l0) (hsl : (lg_sl av).length ≤ nL) (hes : 0 < es.length)
    (h : ∀ K : pw_K, K.2.1 = l → K.2.2.2.2.2.2.2.2.2.2.2.2 = K.2.2.2.2.1.heap → K.2.2.2.2.2.2.2.2.1.name = "<init>" → K.2.2.2.1 = { frames := d, cells := mc, slots := ms, locals := 60 * d } → CW K G N0 own cc nL none d (cw_Q K G N0 es' mc ms) 0 l0 [] es 0 0) : CMet l G N0 y cc nL d mc ms av es es' := by
  refine Met.ofW (cc := cc) (maxL := nL) (ret := none) hpl rfl ?_
  intro p e s m args below meth c s₁ B hml hv
  obtain ⟨rfl, hPs, hK, hT, hAO, hAA⟩ := hv
  have hC : cw_C (p, l, e, ({ frames := d, cells := mc, slots := ms, locals := 60 * d } : Room), s, m, av.toArray, below, meth, c, 0, 0, s.heap) G N0 own cc nL none d :=
    ⟨B.exec, B.bytes, hml, by rw [← hown]; exact findClass_of_methodNamed B.named, hT, hK, by rw [hPs.1]; exact Nat.le_add_right _ _, B.notSynchronized, B.returns, ⟨Nat.le_refl _, Nat.le_refl _⟩, hAO, hAA⟩
  have hl := lv_entry av (n := nL) hsl
  rw [hl0] at hl
  rw [lg_entry_eq]
  exact h (p, l, e, ({ frames := d, cells := mc, slots := ms, locals := 60 * d } : Room), s, m, av.toArray, below, meth, c, 0, 0, s.heap) rfl rfl ((name_of_methodNamed B.named B.method).1.trans hni) rfl hC s.heap [] _ hl hPs va_S.rf
theorem cw_ret {K : pw_K} {G : pw_G} {N0 : Nat} {own : String} {cc : ByteArray} {nL : Nat} {d : Nat} {pc : Nat} {l : List (Nat × Value)} {es : List va_E} {n k : Nat} (hH : K.2.2.2.2.2.2.2.2.2.2.2.2 = K.2.2.2.2.1.heap) (dg : decode cc pc = .ok (.return_, 1)) : CW K G N0 own cc nL none d (cw_Q K G N0 es n k) pc l [] es n k := fun C H locs ls hl hP hS => by
  have hS2 := hS
  rw [hH] at hS2
  exact W.vret C.1 C.2.1 C.2.2.2.2.2.2.2.2.1 (fun t ht hWm => ⟨rfl, by rw [ht]; exact hP, hS2.F ht⟩) hS.2.2 dg C.2.2.2.2.2.2.2.1
theorem cw_back {K : pw_K} {G : pw_G} {N0 : Nat} {Q : State → Prop} {pc : Nat} {st0 rest : List Value} {H : Heap} {locs : List Loc} {ls : Array Slot} {es' : List va_E} {n k mc ms : Nat} {a : Array Value}
    (hS : va_S (fun q => N0 ≤ q) K.2.2.2.2.2.2.2.2.2.2.2.2 H locs) (hr : va_Run K.1 K.2.1 K.2.2.1 K.2.2.2.1 K.2.2.2.2.1 K.2.2.2.2.2.1 K.2.2.2.2.2.2.1 K.2.2.2.2.2.2.2.1 K.2.2.2.2.2.2.2.2.1 K.2.2.2.2.2.2.2.2.2.1 H locs n k mc ms (F0 K.2.2.2.2.2.1 pc ls st0) rest ((fun _ st oc t => oc = .returned none ∧ cP G N0 es' t.heap ∧ va_F (fun q => N0 ≤ q) st t : Array Value → State → Outcome → State → Prop) a) (fun q => N0 ≤ q))
    (kk : ∀ (H1 : Heap) (locs1 : List Loc), cP G N0 es' H1 → va_S (fun q => N0 ≤ q) K.2.2.2.2.2.2.2.2.2.2.2.2 H1 locs1 → W K.1 K.2.1 K.2.2.1 K.2.2.2.1 K.2.2.2.2.1 K.2.2.2.2.2.1 K.2.2.2.2.2.2.1 K.2.2.2.2.2.2.2.1 K.2.2.2.2.2.2.2.2.1 K.2.2.2.2.2.2.2.2.2.1 H1 locs1 (n + mc) (k + ms) Q (F0 K.2.2.2.2.2.1 (pc + 3) ls rest)) : W K.1 K.2.1 K.2.2.1 K.2.2.2.1 K.2.2.2.2.1 K.2.2.2.2.2.1 K.2.2.2.2.2.2.1 K.2.2.2.2.2.2.2.1 K.2.2.2.2.2.2.2.2.1 K.2.2.2.2.2.2.2.2.2.1 H locs n k Q (F0 K.2.2.2.2.2.1 pc ls st0) := by
  intro T hT X
  obtain ⟨v2, st₀, t, T', L, h0, X', hL, e1, e2, ⟨hv, hp, hz, hk⟩, st⟩ := hr T hT X
  cases hv
  rw [h0] at hz hk
  obtain ⟨t2, a1, b1⟩ := kk T'.heap (locs ++ L) (by rw [e1]; exact hp) ⟨Nat.le_trans hS.1 (by rw [e1]; exact hz), fun q h1 h2 => by rw [e1, hk q (Nat.lt_of_lt_of_le h1 hS.1) h2]; exact hS.2.1 q h1 h2, fun q hq => by
      rcases List.mem_append.mp hq with h | h
      · exact hS.2.2 q h
      · exact hL q h⟩ T' rfl X'
  exact ⟨t2, st t2 a1, b1⟩

theorem cw_callI {K : pw_K} {G : pw_G} {N0 : Nat} {own : String} {cc : ByteArray} {nL : Nat} {ret : Option FieldType} {d : Nat} {Q : State → Prop} {pc : Nat} {l : List (Nat × Value)} {st : List Value} {es : List va_E} {n k : Nat} {cy : ByteArray} {nLy dy mc ms : Nat} {o : Nat} {av rest : List Value} {y : MethodName} {es' : List va_E} {ar i : Nat} (hM : CMet K.2.1 G N0 y cy nLy dy mc ms (.ref (N0 + o) :: av) es es') (m1 : Cond.code y cy nLy none ∈ pw_LG) (m2 : Cond.initialized y.cls ∈ pw_LG) (m3 : y.cls ≠ "java/lang/invoke/MethodHandle" ∧ y.cls ≠ "java/lang/invoke/VarHandle") (m4 : (parseMethodDescriptor y.desc).map (fun d => d.parameters.length) = some ar) (m5 : Cond.instanceMethod y ∈ pw_LG) (m6 : y.name = "<init>") (hL : Cond.methodLink own i y ∈ pw_LG) (dg : decode cc pc = .ok (.invokespecial i, 3)) (hst : st = av.reverse ++ .ref (N0 + o) :: rest) (hn : av.length = ar) (hd : dy + 1 ≤ d ∧ nLy ≤ 40) (hw : (rest.map fun v => v.category).sum ≤ 8) (hcc : n + mc ≤ K.2.2.2.1.cells) (hss : k + ms ≤ K.2.2.2.1.slots) (h : CW K G N0 own cc nL ret d Q (pc + 3) l rest es' (n + mc) (k + ms)) : CW K G N0 own cc nL ret d Q pc l st es n k := fun C H locs ls hl hP hS => by
  subst hst
  have hat := fun (w : Cond) (hw : w ∈ pw_LG) => C.2.2.2.2.1.at (a := K.2.2.2.2.2.2.1) w hw
  refine cw_back (a := (Value.ref (N0 + o) :: av).toArray) hS (va_runI (Ts := pw_LG) (As := av) (b := N0 + o) (n := ar) (bytes := cy) (maxL := nLy) (y := y) ⟨C.1, C.2.1, C.2.2.1, C.2.2.2.1, hat⟩ hM ⟨⟨rfl, rfl, Nat.le_trans hd.1 C.2.2.2.2.2.2.2.2.2.1.1, ?_, ?_, List.mem_singleton.mpr rfl, hat _ m1, hat _ m2, m3, pw_len m4, hat _ hL⟩, m6, hat _ m5⟩ ⟨cw_blind, fun U hU hWm => ⟨rfl, by rw [hU]; exact hP, va_K.moved hWm.alike C.2.2.2.2.2.1, C.2.2.2.2.1.warm hWm, va_AO.moved hWm.alike C.2.2.2.2.2.2.2.2.2.2.1, aoa_moved hWm.alike C.2.2.2.2.2.2.2.2.2.2.2⟩⟩ rfl hn hl.1 rfl (lv_room hw) dg ⟨hcc, hss⟩) (fun H1 locs1 hP1 hS1 => h C H1 locs1 ls hl hP1 hS1)
  · show 8 + (nLy + 11) + 60 * dy ≤ K.2.2.2.1.locals
    have := C.2.2.2.2.2.2.2.2.2.1.2
    omega
  · intro w hw a' U hWm
    rw [List.mem_singleton.mp hw]
    exact pw_warm hWm (List.mem_filter.mp m1).2 (hat _ m1)

theorem cw_callN {K : pw_K} {G : pw_G} {N0 : Nat} {own : String} {cc : ByteArray} {nL : Nat} {ret : Option FieldType} {d : Nat} {Q : State → Prop} {pc : Nat} {l : List (Nat × Value)} {st : List Value} {es : List va_E} {n k : Nat} {cy : ByteArray} {nLy dy mc ms : Nat} {o : Nat} {av rest : List Value} {y : MethodName} {es' : List va_E} {ar i : Nat} {host : String} (hM : CMet K.2.1 G N0 y cy nLy dy mc ms (.ref (N0 + o) :: av) es es') (m1 : Cond.code y cy nLy none ∈ pw_LG) (m2 : Cond.initialized y.cls ∈ pw_LG) (m3 : y.cls ≠ "java/lang/invoke/MethodHandle" ∧ y.cls ≠ "java/lang/invoke/VarHandle") (m4 : (parseMethodDescriptor y.desc).map (fun d => d.parameters.length) = some ar) (m5 : Cond.instanceMethod y ∈ pw_LG) (m6 : y.name = "<init>") (hL : Cond.methodLinkNest own i y host ∈ pw_LG) (dg : decode cc pc = .ok (.invokespecial i, 3)) (hst : st = av.reverse ++ .ref (N0 + o) :: rest) (hn : av.length = ar) (hd : dy + 1 ≤ d ∧ nLy ≤ 40) (hw : (rest.map fun v => v.category).sum ≤ 8) (hcc : n + mc ≤ K.2.2.2.1.cells) (hss : k + ms ≤ K.2.2.2.1.slots) (h : CW K G N0 own cc nL ret d Q (pc + 3) l rest es' (n + mc) (k + ms)) : CW K G N0 own cc nL ret d Q pc l st es n k := fun C H locs ls hl hP hS => by
  subst hst
  have hat := fun (w : Cond) (hw : w ∈ pw_LG) => C.2.2.2.2.1.at (a := K.2.2.2.2.2.2.1) w hw
  refine cw_back (a := (Value.ref (N0 + o) :: av).toArray) hS (va_runIN (Ts := pw_LG) (As := av) (b := N0 + o) (n := ar) (bytes := cy) (maxL := nLy) (y := y) ⟨C.1, C.2.1, C.2.2.1, C.2.2.2.1, hat⟩ hM ⟨⟨⟨rfl, rfl, Nat.le_trans hd.1 C.2.2.2.2.2.2.2.2.2.1.1, ?_, ?_, List.mem_singleton.mpr rfl⟩, hat _ m1, hat _ m2, m3, pw_len m4, hat _ hL⟩, m6, hat _ m5⟩ ⟨cw_blind, fun U hU hWm => ⟨rfl, by rw [hU]; exact hP, va_K.moved hWm.alike C.2.2.2.2.2.1, C.2.2.2.2.1.warm hWm, va_AO.moved hWm.alike C.2.2.2.2.2.2.2.2.2.2.1, aoa_moved hWm.alike C.2.2.2.2.2.2.2.2.2.2.2⟩⟩ rfl hn hl.1 rfl (lv_room hw) dg ⟨hcc, hss⟩) (fun H1 locs1 hP1 hS1 => h C H1 locs1 ls hl hP1 hS1)
  · show 8 + (nLy + 11) + 60 * dy ≤ K.2.2.2.1.locals
    have := C.2.2.2.2.2.2.2.2.2.1.2
    omega
  · intro w hw a' U hWm
    rw [List.mem_singleton.mp hw]
    exact pw_warm hWm (List.mem_filter.mp m1).2 (hat _ m1)
