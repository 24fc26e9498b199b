set_option maxRecDepth 100000
theorem set_self9 {es : List va_E} {o : Nat} {x : va_E} (h : es[o]? = some x) : es.set o x = es := by
  refine List.ext_getElem? fun i => ?_
  by_cases c : i = o
  · subst c
    rw [List.getElem?_set_self (List.getElem?_eq_some_iff.mp h).1, h]
  · rw [List.getElem?_set_ne (Ne.symm c)]
/-- a constructor that writes its own object and adds cells: the object's entry x, the cells new -/
theorem lf_start {K : pw_K} {G : pw_G} {N0 : Nat} {own : String} {cc : ByteArray} {nL : Nat} {ret : Option FieldType} {d : Nat} {Q : State → Prop} {pc : Nat} {l : List (Nat × Value)} {st : List Value} {es : List va_E} {n k : Nat} {o : Nat} {x : va_E} (ho : es[o]? = some x) (h : CW K G N0 own cc nL ret d Q pc l st (es.set o x ++ []) n k) : CW K G N0 own cc nL ret d Q pc l st es n k := by
  rw [List.append_nil, set_self9 ho] at h
  exact h
theorem lf_newa {K : pw_K} {G : pw_G} {N0 : Nat} {own : String} {cc : ByteArray} {nL : Nat} {ret : Option FieldType} {d : Nat} {Q : State → Prop} {pc : Nat} {l : List (Nat × Value)} {st : List Value} {es : List va_E} {n k : Nat} {o : Nat} {x : va_E} {new : List va_E} {z : Int32} {N : Nat} (har : Cond.arrayClass .int ∈ pw_LG) (dg : decode cc pc = .ok (.newarray .int, 2)) (hn : ¬ z < 0) (hN : z.toNatClampNeg = N) (hb : N * 4 ≤ 536870912) (hc : n + 1 ≤ K.2.2.2.1.cells) (hs : k + N ≤ K.2.2.2.1.slots) (h : CW K G N0 own cc nL ret d Q (pc + 2) l (.ref (N0 + (es.length + new.length)) :: st) (es.set o x ++ (new ++ [.inl (G.2.1, N, .inl (fun _ => 0))])) (n + 1) (k + N)) : CW K G N0 own cc nL ret d Q pc l (.int z :: st) (es.set o x ++ new) n k := by
  refine cw_newa har dg hn hN hb hc hs ?_
  rw [List.length_append, List.length_set, List.append_assoc]
  exact h
theorem lf_put {K : pw_K} {G : pw_G} {N0 : Nat} {own : String} {cc : ByteArray} {nL : Nat} {ret : Option FieldType} {d : Nat} {Q : State → Prop} {pc : Nat} {l : List (Nat × Value)} {st : List Value} {es : List va_E} {n k : Nat} {o v i j ci N : Nat} {C9 : String} {T9 : u_T} {ty9 : Nat → FieldType} {fs : List Value} {ty : FieldType} {new : List va_E} (hol : o < es.length) (hc : pw_CF ci C9 T9 N ty9) (hj : j < N) (hL : pw_FL own i T9 j) (hfin : (T9 j).2.2.2 = true) (hin2 : K.2.2.2.2.2.2.2.2.1.name = "<init>") (hdecl : (T9 j).1 = own) (hd : parseFieldDescriptor (T9 j).2.2.1 = some ty) (hn : narrow ty (.ref v) = .ref v) (hfit : fits ty (.ref v) = true) (hl9 : j < fs.length) (dg : decode cc pc = .ok (.putfield i, 3)) (h : CW K G N0 own cc nL ret d Q (pc + 3) l st (es.set o (.inr (ci, fs.set j (.ref v))) ++ new) n k) : CW K G N0 own cc nL ret d Q pc l (.ref v :: .ref (N0 + o) :: st) (es.set o (.inr (ci, fs)) ++ new) n k := by
  have e1 : (es.set o (.inr (ci, fs)) ++ new)[o]? = some (.inr (ci, fs)) := by
    rw [List.getElem?_append_left (by rw [List.length_set]; exact hol), List.getElem?_set_self hol]
  refine cw_putR e1 hc hj hL hfin hin2 hdecl hd hn hfit hl9 dg ?_
  rw [List.set_append_left _ _ (by rw [List.length_set]; exact hol), List.set_set]
  exact h
theorem cw_anew {K : pw_K} {G : pw_G} {N0 : Nat} {own : String} {cc : ByteArray} {nL : Nat} {ret : Option FieldType} {d : Nat} {Q : State → Prop} {pc : Nat} {l : List (Nat × Value)} {st : List Value} {es : List va_E} {n k : Nat} {z : Int32} {N i : Nat} (hcl : Cond.classLink own i RX5 ∈ pw_LG) (dg : decode cc pc = .ok (.anewarray i, 3)) (hn : ¬ z < 0) (hN : z.toNatClampNeg = N) (hb : N * 4 ≤ 536870912) (hc : n + 1 ≤ K.2.2.2.1.cells) (hs : k + N ≤ K.2.2.2.1.slots) (h : CW K G N0 own cc nL ret d Q (pc + 3) l (.ref (N0 + es.length) :: st) (es ++ [.inl (G.2.2.1, N, .inr (.inr (.inr (.inr (fun _ => none)))))]) (n + 1) (k + N)) : CW K G N0 own cc nL ret d Q pc l (.int z :: st) es n k := fun C H locs ls hl hP hS => by
  subst hN
  refine W.anew C.1 C.2.1 C.2.2.2.1 (C.2.2.2.2.1.at _ hcl) (va_AO.use C.2.2.2.2.2.2.2.2.2.2.1) rfl dg rfl hn hb hc hs fun cA kA comp f1 f2 f3 f4 => ?_
  have hcS : K.2.2.2.2.1.vm.findClass ("[" ++ (FieldType.object RX5).toString) = some G.2.2.1 := by
    obtain ⟨-, -, -, -, -, h9⟩ := (C.2.2.2.2.2.1.2 1 _ rfl).2
    exact h9
  have e : cA = G.2.2.1 := Option.some.inj (f1.symm.trans hcS)
  subst e
  generalize hH1 : H.push ({ cls := G.2.2.1, slots := Array.replicate z.toNatClampNeg .null, vm := .none } : Cell) = H1
  have z1 : H1.size = H.size + 1 := by rw [← hH1, Array.size_push]
  have e1 : H1[H.size]? = some (arrV G.2.2.1 z.toNatClampNeg (fun _ => .null)) := by rw [← hH1, Array.getElem?_push_size, ← arrV_new]
  have o1 : ∀ q : Nat, q < H.size → H1[q]? = H[q]? := fun q hq => by rw [← hH1, Array.getElem?_push, if_neg (Nat.ne_of_lt hq)]
  have hS2 := cw_S (H1 := H1) C.2.2.2.2.2.2.1 hS (by omega) (fun q h1 _ => o1 q h1) (L := []) (fun z hz => nomatch hz)
  rw [List.append_nil] at hS2
  have hP2 : cP G N0 (es ++ [.inl (G.2.2.1, z.toNatClampNeg, .inr (.inr (.inr (.inr (fun _ => none)))))]) H1 := cP_app hP z1 o1 (fun j e9 h9 => by
    match j, h9 with
    | 0, h9 => cases h9; exact e1
    | j + 1, h9 => simp at h9)
  have := h C H1 locs ls hl hP2 hS2
  rw [← hP.1] at this
  exact this
theorem cw_ast {K : pw_K} {G : pw_G} {N0 : Nat} {own : String} {cc : ByteArray} {nL : Nat} {ret : Option FieldType} {d : Nat} {Q : State → Prop} {pc : Nat} {l : List (Nat × Value)} {st : List Value} {es : List va_E} {n k : Nat} {o v ci : Nat} {N : Nat} {C9 : String} {T9 : u_T} {ty9 : Nat → FieldType} {vs : List Value} {f : Nat → Option Nat} {i : Int32} {m9 : Nat} (h5 : C9 = RX5) (ho : es[o]? = some (.inl (G.2.2.1, m9, .inr (.inr (.inr (.inr f)))))) (hv : es[v]? = some (.inr (ci, vs))) (hc : pw_CF ci C9 T9 N ty9) (hin : vp_in i m9) (dg : decode cc pc = .ok (.aastore, 1)) (h : CW K G N0 own cc nL ret d Q (pc + 1) l st (es.set o (.inl (G.2.2.1, m9, .inr (.inr (.inr (.inr (va_up f i.toNatClampNeg (some (N0 + v))))))))) n k) : CW K G N0 own cc nL ret d Q pc l (.ref (N0 + v) :: .int i :: .ref (N0 + o) :: st) es n k := fun C H locs ls hl hP hS => by
  subst h5
  have hlt : i.toNatClampNeg < m9 := Nat.not_le.mp fun q => hin (Or.inr q)
  have h0 : ¬ i < 0 := fun q => hin (Or.inl q)
  obtain ⟨r', hr', cellV, g1, g2, g3, -⟩ := hP.2 v _ (hw_at hv)
  have hcls := (C.2.2.2.2.2.1.1 ci _ hc.1).2
  obtain ⟨kA, comp, k1, k2, k3, -⟩ := (C.2.2.2.2.2.1.2 1 _ rfl).2
  have hcomp : comp = G.1.1 ci := Option.some.inj (k3.symm.trans hcls.1)
  subst hcomp
  obtain ⟨kC, hkC, -⟩ := hcls.2
  refine W.aast C.1 C.2.1 (hP.2 o _ (hw_at ho)) (fun q h => by cases h) (fun h => by cases h) k1 k2 rfl hkC ⟨h0, by show _ < (arrV _ _ _).slots.size; rw [arrV_size]; exact hlt⟩ g1 (fun q h => by rw [g3] at h; cases h) (by rw [g2]; exact hkC) (by rw [g2]; exact va_assign hcls) rfl rfl dg fun H1 e z oq => ?_
  have hP2 : cP G N0 (es.set o (.inl (G.2.2.1, m9, .inr (.inr (.inr (.inr (va_up f i.toNatClampNeg (some (N0 + v))))))))) H1 := cP_set hP ho z (by
    show H1[N0 + o]? = some (vp_cell _ _)
    rw [e]
    rw [vp_cell_q, vp_cell_q, arrV_store]
    congr 2
    funext q
    by_cases hq : q = i.toNatClampNeg
    · subst hq
      simp [updV, va_up, va_rf]
    · simp [updV, va_up, hq]) oq
  exact h C H1 _ ls hl hP2 (cw_S C.2.2.2.2.2.2.1 hS (by rw [z]; exact Nat.le_refl _) (fun q _ h2 => oq q (show q ≠ N0 + o by omega)) (fun z hz => by
    rw [List.mem_singleton.mp hz]
    exact Nat.le_add_right N0 o))
theorem cw_mna {K : pw_K} {G : pw_G} {N0 : Nat} {own : String} {cc : ByteArray} {nL : Nat} {ret : Option FieldType} {d : Nat} {Q : State → Prop} {pc : Nat} {l : List (Nat × Value)} {st : List Value} {es : List va_E} {n k : Nat} {z y : Int32} {N M i : Nat} (hcl : Cond.classLink own i ("[" ++ (FieldType.array .int).toString) ∈ pw_LG) (har : Cond.arrayClass .int ∈ pw_LG) (dg : decode cc pc = .ok (.multianewarray i 2, 4)) (hn : ¬ z < 0) (hm : ¬ y < 0) (hN : z.toNatClampNeg = N) (hM : y.toNatClampNeg = M) (hb1 : N * 4 ≤ 536870912) (hb2 : M * 4 ≤ 536870912) (hb3 : M ≤ 536870912) (hc : n + (1 + N) ≤ K.2.2.2.1.cells) (hs : k + (N + N * M) ≤ K.2.2.2.1.slots)
    (h : CW K G N0 own cc nL ret d Q (pc + 4) l (.ref (N0 + es.length) :: st) (es ++ (.inl (G.2.2.2.1, N, .inr (.inr (.inr (.inr (fun j => if j < N then some (N0 + es.length + 1 + j) else none))))) :: List.replicate N (.inl (G.2.1, M, .inl (fun _ => 0))))) (n + 1 + N) (k + N + N * M)) : CW K G N0 own cc nL ret d Q pc l (.int y :: .int z :: st) es n k := fun C H locs ls hl hP hS => by
  subst hN
  subst hM
  intro T hT Xs
  have hcI : K.2.2.2.2.1.vm.findClass (FieldType.array .int).toString = some G.2.1 := (C.2.2.2.2.2.1.2 0 _ rfl).2
  have hcF : K.2.2.2.2.1.vm.findClass ("[" ++ (FieldType.array .int).toString) = some G.2.2.2.1 := (C.2.2.2.2.2.1.2 2 _ rfl).2
  obtain ⟨vm₁, cA, comp, hx1, fA, fC, hO, hx2, X', step⟩ := Xs.multianewarray2F C.1 C.2.2.2.1 (C.2.2.2.2.1.at _ hcl) (va_AOA.use C.2.2.2.2.2.2.2.2.2.2.2) (C.2.2.2.2.1.at _ har) (g := F0 K.2.2.2.2.2.1 pc ls (.int y :: .int z :: st)) rfl (by rw [C.2.1]; exact dg) rfl hn hm hb1 hb2 hb3 rfl rfl hc hs
  have ec : some G.2.1 = some comp := hcI.symm.trans fC
  cases ec
  have ef : cA = G.2.2.2.1 := Option.some.inj (fA.symm.trans hcF)
  subst ef
  generalize hF : Jvm.Free.Multi.fill (T.setVm vm₁) G.2.2.2.1 G.2.1 z.toNatClampNeg y.toNatClampNeg (defaultValue .int) z.toNatClampNeg = F at X' step
  have hTh : (T.setVm vm₁).heap = H := hT
  obtain ⟨f1, f2, -, -⟩ := Jvm.Free.Multi.fill_facts (T.setVm vm₁) G.2.2.2.1 G.2.1 z.toNatClampNeg y.toNatClampNeg (defaultValue .int) z.toNatClampNeg
  rw [hF, hTh] at f1 f2
  have hold : ∀ x : Nat, x < H.size → F.heap[x]? = H[x]? := fun x hx => by
    have := Jvm.Free.Multi.fill_old (T.setVm vm₁) G.2.2.2.1 G.2.1 z.toNatClampNeg y.toNatClampNeg (defaultValue .int) (a := x) (by rw [hTh]; exact hx) z.toNatClampNeg
    rw [hF, hTh] at this
    exact this
  have hrow : ∀ j : Nat, j < z.toNatClampNeg → F.heap[H.size + 1 + j]? = some (vp_cell G.2.1 (y.toNatClampNeg, .inl (fun _ => 0))) := fun j hj => by
    have := Jvm.Free.Multi.fill_inner (T.setVm vm₁) G.2.2.2.1 G.2.1 z.toNatClampNeg y.toNatClampNeg (defaultValue .int) z.toNatClampNeg j hj
    rw [hF, hTh] at this
    rw [this]
    rw [vp_cell_i, ← arrV_new]
    rfl
  have hout : Jvm.Free.Multi.outerC G.2.2.2.1 z.toNatClampNeg H.size z.toNatClampNeg = vp_cell G.2.2.2.1 (z.toNatClampNeg, .inr (.inr (.inr (.inr (fun i => if i < z.toNatClampNeg then some (H.size + 1 + i) else none))))) := by
    rw [vp_cell_q]
    exact vr_outer G.2.2.2.1 z.toNatClampNeg H.size z.toNatClampNeg
  rw [hout] at f2
  have hS2 := cw_S (H1 := F.heap) C.2.2.2.2.2.2.1 hS (by omega) (fun q h1 _ => hold q h1) (L := []) (fun z hz => nomatch hz)
  rw [List.append_nil] at hS2
  have hP2 : cP G N0 (es ++ (.inl (G.2.2.2.1, z.toNatClampNeg, .inr (.inr (.inr (.inr (fun j => if j < z.toNatClampNeg then some (N0 + es.length + 1 + j) else none))))) :: List.replicate z.toNatClampNeg (.inl (G.2.1, y.toNatClampNeg, .inl (fun _ => 0))))) F.heap := cP_app hP (by rw [f1, List.length_cons, List.length_replicate]; omega) hold (fun j e9 h9 => by
    match j, h9 with
    | 0, h9 =>
      cases h9
      show F.heap[H.size + 0]? = some (vp_cell _ _)
      rw [Nat.add_zero, f2, hP.1]
    | j + 1, h9 =>
      rw [List.getElem?_cons_succ, List.getElem?_replicate] at h9
      split at h9
      · next hj =>
        cases h9
        show F.heap[H.size + (j + 1)]? = some (vp_cell _ _)
        rw [show H.size + (j + 1) = H.size + 1 + j by omega]
        exact hrow j hj
      · cases h9)
  obtain ⟨t, a1, b1⟩ := h C F.heap locs ls hl hP2 hS2 F rfl X'
  refine ⟨t, step t ?_, b1⟩
  have e : T.heap.size = N0 + es.length := by rw [hT]; exact hP.1
  rw [e]
  exact a1
