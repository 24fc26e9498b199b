/-! THE LAW'S BEGIN: the made world -/
set_option maxRecDepth 100000
theorem sim0 : Sim (fun _ _ => 0) := by
  have z : ∀ (a : Nat), ¬ a < 0 := fun a => Nat.not_lt_zero a
  refine ⟨((0, 0, 0, 0, fun _ => 0, fun _ => 0, fun _ => 0, fun _ => 0, fun _ => 0, fun _ => 0, fun _ => 0, fun _ => false), none, fun _ => (0, 0, 0, 0, 0, fun _ => 0)), ⟨?_, rfl, (fun ti h => by cases h), fun d hd => ⟨rfl, fun h => absurd (show (0 : Nat) = 1 from h) (by decide), fun h => absurd (show (0 : Nat) = 2 from h) (by decide)⟩⟩, ⟨?_, rfl, (fun ti h => by cases h), fun d hd => ⟨rfl, fun h => absurd (show (0 : Nat) = 1 from h) (by decide), fun h => absurd (show (0 : Nat) = 2 from h) (by decide)⟩⟩, ⟨?_, by decide, fun b hb => absurd hb (z b)⟩, (fun ti h => by cases h), fun d hd => ⟨show (0 : Nat) ≤ 2 by decide, fun h => absurd (show (0 : Nat) = 1 from h) (by decide), fun h => absurd (show (0 : Nat) = 2 from h) (by decide)⟩⟩
  · exact ⟨⟨rfl, rfl, rfl, rfl, rfl⟩, fun p hp => absurd hp (z p), fun b hb => absurd hb (z b)⟩
  · exact ⟨⟨rfl, rfl, rfl, rfl⟩, fun p hp => absurd hp (z p), fun b hb => absurd hb (z b)⟩
  · exact ⟨⟨by decide, by decide, by decide, by decide⟩, fun p hp => absurd hp (z p), fun b hb => absurd hb (z b)⟩
def kRf (N0 : Nat) : Nat → Option Nat := fun j => if j < 7 then some (N0 + 38 + 1 + j) else none
theorem kRf_eq (N0 : Nat) : kRf N0 = fun j => (([39, 40, 41, 42, 43, 44, 45] : List Nat)[j]?).map (fun k => N0 + k) := by
  funext j
  unfold kRf
  match j with
  | 0 => rfl
  | 1 => rfl
  | 2 => rfl
  | 3 => rfl
  | 4 => rfl
  | 5 => rfl
  | 6 => rfl
  | j + 7 =>
    rw [if_neg (by omega)]
    rfl
theorem kF_eq (N0 : Nat) : kF N0 8 = fun j => (([55, 57, 59, 61, 63, 65, 67, 69] : List Nat)[j]?).map (fun k => N0 + k) := by
  funext j
  simp only [kF, va_up]
  match j with
  | 0 => rfl
  | 1 => rfl
  | 2 => rfl
  | 3 => rfl
  | 4 => rfl
  | 5 => rfl
  | 6 => rfl
  | 7 => rfl
  | j + 8 =>
    have e : ∀ q, q < 8 → ¬ j + 8 = q := fun q hq => by omega
    simp [e]
def kE19 (G : pw_G) (N0 : Nat) : List va_E := [.inr (8, [.ref (N0 + 1), .ref (N0 + 13), .ref (N0 + 25), .ref (N0 + 37), .ref (N0 + 47), .ref (N0 + 48), .ref (N0 + 50), .ref (N0 + 51), .ref (N0 + 53), .ref (N0 + 54), .int 0]), .inr (6, [.ref (N0 + (2)), .ref (N0 + (3)), .ref (N0 + (4)), .ref (N0 + (5)), .ref (N0 + (6)), .ref (N0 + (7)), .ref (N0 + (8)), .ref (N0 + (9)), .ref (N0 + (10)), .ref (N0 + (11)), .ref (N0 + (12)), .int 0, .int 0, .int 0, .int 0, .int 0]), .inl (G.2.1, 7, .inl (fun _ => 0)), .inl (G.2.1, 7, .inl (fun _ => 0)), .inl (G.2.1, 7, .inl (fun _ => 0)), .inl (G.2.1, 10, .inl (fun _ => 0)), .inl (G.2.1, 10, .inl (fun _ => 0)), .inl (G.2.1, 10, .inl (fun _ => 0)), .inl (G.2.1, 10, .inl (fun _ => 0)), .inl (G.2.1, 10, .inl (fun _ => 0)), .inl (G.2.1, 10, .inl (fun _ => 0)), .inl (G.2.1, 10, .inl (fun _ => 0)), .inl (G.2.1, 10, .inl (fun _ => 0)), .inr (6, [.ref (N0 + (14)), .ref (N0 + (15)), .ref (N0 + (16)), .ref (N0 + (17)), .ref (N0 + (18)), .ref (N0 + (19)), .ref (N0 + (20)), .ref (N0 + (21)), .ref (N0 + (22)), .ref (N0 + (23)), .ref (N0 + (24)), .int 0, .int 0, .int 0, .int 0, .int 0]), .inl (G.2.1, 7, .inl (fun _ => 0)), .inl (G.2.1, 7, .inl (fun _ => 0)), .inl (G.2.1, 7, .inl (fun _ => 0)), .inl (G.2.1, 10, .inl (fun _ => 0)), .inl (G.2.1, 10, .inl (fun _ => 0)), .inl (G.2.1, 10, .inl (fun _ => 0)), .inl (G.2.1, 10, .inl (fun _ => 0)), .inl (G.2.1, 10, .inl (fun _ => 0)), .inl (G.2.1, 10, .inl (fun _ => 0)), .inl (G.2.1, 10, .inl (fun _ => 0)), .inl (G.2.1, 10, .inl (fun _ => 0)), .inr (6, [.ref (N0 + (26)), .ref (N0 + (27)), .ref (N0 + (28)), .ref (N0 + (29)), .ref (N0 + (30)), .ref (N0 + (31)), .ref (N0 + (32)), .ref (N0 + (33)), .ref (N0 + (34)), .ref (N0 + (35)), .ref (N0 + (36)), .int 0, .int 0, .int 0, .int 0, .int 0]), .inl (G.2.1, 7, .inl (fun _ => 0)), .inl (G.2.1, 7, .inl (fun _ => 0)), .inl (G.2.1, 7, .inl (fun _ => 0)), .inl (G.2.1, 10, .inl (fun _ => 0)), .inl (G.2.1, 10, .inl (fun _ => 0)), .inl (G.2.1, 10, .inl (fun _ => 0)), .inl (G.2.1, 10, .inl (fun _ => 0)), .inl (G.2.1, 10, .inl (fun _ => 0)), .inl (G.2.1, 10, .inl (fun _ => 0)), .inl (G.2.1, 10, .inl (fun _ => 0)), .inl (G.2.1, 10, .inl (fun _ => 0)), .inr (3, [.ref (N0 + 1), .ref (N0 + 13), .ref (N0 + (38)), .ref (N0 + (46))]), .inl (G.2.2.2.1, 7, .inr (.inr (.inr (.inr (kRf N0))))), .inl (G.2.1, 7, .inl (fun _ => 0)), .inl (G.2.1, 7, .inl (fun _ => 0)), .inl (G.2.1, 7, .inl (fun _ => 0)), .inl (G.2.1, 7, .inl (fun _ => 0)), .inl (G.2.1, 7, .inl (fun _ => 0)), .inl (G.2.1, 7, .inl (fun _ => 0)), .inl (G.2.1, 7, .inl (fun _ => 0)), .inl (G.2.1, 128, .inl (fun _ => 0)), .inr (7, [.ref (N0 + 1), .ref (N0 + 13)]), .inr (5, [.ref (N0 + 1), .ref (N0 + (49))]), .inl (G.2.1, 10, .inl (fun _ => 0)), .inr (0, [.ref (N0 + 1)]), .inr (2, [.ref (N0 + 1), .ref (N0 + 13), .ref (N0 + (52))]), .inl (G.2.1, 10, .inl (fun _ => 0)), .inr (1, [.ref (N0 + 1), .ref (N0 + 13), .int 0]), .inl (G.2.2.1, 8, .inr (.inr (.inr (.inr (kF N0 8))))), .inr (4, [.ref (N0 + (56)), .int 0, .int 0, .int 0, .int 0, .int 0]), .inl (G.2.1, 100, .inl (fun _ => 0)), .inr (4, [.ref (N0 + (58)), .int 0, .int 0, .int 0, .int 0, .int 0]), .inl (G.2.1, 100, .inl (fun _ => 0)), .inr (4, [.ref (N0 + (60)), .int 0, .int 0, .int 0, .int 0, .int 0]), .inl (G.2.1, 100, .inl (fun _ => 0)), .inr (4, [.ref (N0 + (62)), .int 0, .int 0, .int 0, .int 0, .int 0]), .inl (G.2.1, 100, .inl (fun _ => 0)), .inr (4, [.ref (N0 + (64)), .int 0, .int 0, .int 0, .int 0, .int 0]), .inl (G.2.1, 100, .inl (fun _ => 0)), .inr (4, [.ref (N0 + (66)), .int 0, .int 0, .int 0, .int 0, .int 0]), .inl (G.2.1, 100, .inl (fun _ => 0)), .inr (4, [.ref (N0 + (68)), .int 0, .int 0, .int 0, .int 0, .int 0]), .inl (G.2.1, 100, .inl (fun _ => 0)), .inr (4, [.ref (N0 + (70)), .int 0, .int 0, .int 0, .int 0, .int 0]), .inl (G.2.1, 100, .inl (fun _ => 0)), .inr (9, [.ref (N0 + (72)), .ref (N0 + (73)), .ref (N0 + (74)), .ref (N0 + (75)), .ref (N0 + (76)), .int 0, .int 0, .int 0, .int 0, .ref (N0 + (77)), .ref (N0 + (78)), .ref (N0 + (79)), .int 0, .int 0, .int 0, .ref (N0 + (80)), .ref (N0 + (81)), .ref (N0 + (82)), .ref (N0 + (83)), .ref (N0 + (84)), .ref (N0 + (85)), .int 0]), .inl (G.2.1, 78, .inl (fun _ => 0)), .inl (G.2.1, 78, .inl (fun _ => 0)), .inl (G.2.1, 78, .inl (fun _ => 0)), .inl (G.2.1, 78, .inl (fun _ => 0)), .inl (G.2.1, 78, .inl (fun _ => 0)), .inl (G.2.1, 4, .inl (fun _ => 0)), .inl (G.2.1, 7, .inl (fun _ => 0)), .inl (G.2.1, 7, .inl (fun _ => 0)), .inl (G.2.1, 8, .inl (fun _ => 0)), .inl (G.2.1, 8, .inl (fun _ => 0)), .inl (G.2.1, 8, .inl (fun _ => 0)), .inl (G.2.1, 8, .inl (fun _ => 0)), .inl (G.2.1, 8, .inl (fun _ => 0)), .inl (G.2.1, 800, .inl (fun _ => 0))]
theorem kE19_wl (D : va_G) (cI cS cF : ClassId) (N0 : Nat) : kE19 (D, cI, cS, cF, fun k => N0 + k) N0 = (List.range pw_NC).map (fun k => pw_ent (D, cI, cS, cF, fun k => N0 + k) (fun _ => 0) ((pw_SH k).getD (.inr (.inl 0)))) := by
  unfold kE19
  rw [kRf_eq, kF_eq]
  rfl
theorem start_W {D : va_G} {cI cS cF : ClassId} {N0 : Nat} {x : va_E} {H : Heap} (h : cP (D, cI, cS, cF, fun k => N0 + k) N0 (kE19 (D, cI, cS, cF, fun k => N0 + k) N0 ++ [x]) H) : pw_Wd (D, cI, cS, cF, fun k => N0 + k) (fun _ _ => 0) H := by
  intro k q hq
  unfold pw_wl at hq
  rw [List.getElem?_map] at hq
  by_cases hk : k < pw_NC
  · rw [List.getElem?_range hk] at hq
    cases hq
    refine h.2 k _ (hw_at ?_)
    rw [kE19_wl, List.getElem?_append_left (by rw [List.length_map, List.length_range]; exact hk), List.getElem?_map, List.getElem?_range hk]
    rfl
  · rw [List.getElem?_eq_none (by rw [List.length_range]; omega)] at hq
    cases hq
theorem kE19_len (G : pw_G) (N0 : Nat) : (kE19 G N0).length = 86 := rfl
theorem start_O {G : pw_G} {cJ : ClassId} {N0 : Nat} {f : Nat → Int64} {H : Heap} (h : cP G N0 (kE19 G N0 ++ [.inl (cJ, 1, .inr (.inl f))]) H) : px_O G cJ (N0 + 86) f H := by
  intro k q hk
  match k, hk with
  | 0, hk =>
    cases hk
    refine h.2 86 _ (hw_at ?_)
    rw [List.getElem?_append_right (by rw [kE19_len]; exact Nat.le_refl _), kE19_len]
    rfl
  | k + 1, hk => simp at hk
theorem gcL10 : Cond.classLink RL 8 RX10 ∈ pw_LG := pw_inT 22 (by decide +kernel) (by decide +kernel)
theorem gcL11 : Cond.classLink RL 18 RX11 ∈ pw_LG := pw_inT 1100 (by decide +kernel) (by decide +kernel)
theorem giL10 : Cond.instantiable RX10 11 ∈ pw_LG := pw_inT 23 (by decide +kernel) (by decide +kernel)
theorem giL11 : Cond.instantiable RX11 22 ∈ pw_LG := pw_inT 1101 (by decide +kernel) (by decide +kernel)
theorem gzL10 : Cond.initialized RX10 ∈ pw_LG := pw_inT 1 (by decide +kernel) (by decide +kernel)
theorem gzL11 : Cond.initialized RX11 ∈ pw_LG := pw_inT 10 (by decide +kernel) (by decide +kernel)
theorem gkL10 : Cond.code yX10_init cX10_init 2 none ∈ pw_LG := pw_inT 26 (by decide +kernel) (by decide +kernel)
theorem gkL11 : Cond.code yX11_init cX11_init 1 none ∈ pw_LG := pw_inT 1104 (by decide +kernel) (by decide +kernel)
theorem gmL10 : Cond.instanceMethod yX10_init ∈ pw_LG := pw_inT 25 (by decide +kernel) (by decide +kernel)
theorem gmL11 : Cond.instanceMethod yX11_init ∈ pw_LG := pw_inT 1103 (by decide +kernel) (by decide +kernel)
theorem gl_L10 : Cond.methodLink RL 17 yX10_init ∈ pw_LG := pw_inT 24 (by decide +kernel) (by decide +kernel)
theorem gl_L11 : Cond.methodLink RL 20 yX11_init ∈ pw_LG := pw_inT 1102 (by decide +kernel) (by decide +kernel)
theorem gvL10 : ∀ j, j < 11 → defaultValue (tyX10 j) = vp_V [.null, .null, .null, .null, .null, .null, .null, .null, .null, .null, .int 0] j := by
  intro j hj
  rcases (show j = 0 ∨ j = 1 ∨ j = 2 ∨ j = 3 ∨ j = 4 ∨ j = 5 ∨ j = 6 ∨ j = 7 ∨ j = 8 ∨ j = 9 ∨ j = 10 by omega) with rfl | rfl | rfl | rfl | rfl | rfl | rfl | rfl | rfl | rfl | rfl <;> rfl
theorem gvL11 : ∀ j, j < 22 → defaultValue (tyX11 j) = vp_V [.null, .null, .null, .null, .null, .int 0, .int 0, .int 0, .int 0, .null, .null, .null, .int 0, .int 0, .int 0, .null, .null, .null, .null, .null, .null, .int 0] j := by
  intro j hj
  rcases (show j = 0 ∨ j = 1 ∨ j = 2 ∨ j = 3 ∨ j = 4 ∨ j = 5 ∨ j = 6 ∨ j = 7 ∨ j = 8 ∨ j = 9 ∨ j = 10 ∨ j = 11 ∨ j = 12 ∨ j = 13 ∨ j = 14 ∨ j = 15 ∨ j = 16 ∨ j = 17 ∨ j = 18 ∨ j = 19 ∨ j = 20 ∨ j = 21 by omega) with rfl | rfl | rfl | rfl | rfl | rfl | rfl | rfl | rfl | rfl | rfl | rfl | rfl | rfl | rfl | rfl | rfl | rfl | rfl | rfl | rfl | rfl <;> rfl
theorem gaL : Cond.arrayClass .long ∈ pw_LG := pw_inT 1549 (by decide +kernel) (by decide +kernel)
theorem cw_newl {K : pw_K} {G : pw_G} {N0 : Nat} {own : String} {cc : ByteArray} {nL : Nat} {ret : Option FieldType} {d : Nat} {Q : State → Prop} {pc : Nat} {l : List (Nat × Value)} {st : List Value} {es : List va_E} {n k : Nat} {cJ : ClassId} {z : Int32} {N : Nat} (hJ : K.2.2.2.2.1.vm.findClass ("[" ++ (FieldType.long).toString) = some cJ) (dg : decode cc pc = .ok (.newarray .long, 2)) (hn : ¬ z < 0) (hN : z.toNatClampNeg = N) (hb : N * 8 ≤ 536870912) (hc : n + 1 ≤ K.2.2.2.1.cells) (hs : k + N ≤ K.2.2.2.1.slots) (h : CW K G N0 own cc nL ret d Q (pc + 2) l (.ref (N0 + es.length) :: st) (es ++ [.inl (cJ, N, .inr (.inl (fun _ => 0)))]) (n + 1) (k + N)) : CW K G N0 own cc nL ret d Q pc l (.int z :: st) es n k := fun C H locs ls hl hP hS => by
  refine va_newaK C.1 C.2.1 (atype := .long) (C.2.2.2.2.1.at _ gaL) rfl dg rfl hn hN hb hc hs rfl fun H1 cA e1 z1 o1 hAr hNm => ?_
  have e : cA = cJ := Option.some.inj ((show K.2.2.2.2.1.vm.findClass ("[" ++ (FieldType.long).toString) = some cA from hNm).symm.trans hJ)
  subst e
  have hS2 := cw_S (H1 := H1) C.2.2.2.2.2.2.1 hS (by omega) (fun q h1 _ => o1 q h1) (L := []) (fun z hz => nomatch hz)
  rw [List.append_nil] at hS2
  have hP2 : cP G N0 (es ++ [.inl (cA, N, .inr (.inl (fun _ => 0)))]) H1 := cP_app hP z1 o1 (fun j e9 h9 => by
    match j, h9 with
    | 0, h9 => cases h9; exact e1
    | j + 1, h9 => simp at h9)
  have := h C H1 locs ls hl hP2 hS2
  rw [← hP.1] at this
  exact this
/-- the classes, the arrays' classes -/
theorem start_ids {s : State} (hT : pw_T s) (hAO : va_AO RX5 s) (hAA : va_AOA .int s) : ∃ (D : va_G) (cI cS cF cJ : ClassId), (∀ ad : Nat → Nat, va_K D vwCl (pw_tys (D, cI, cS, cF, ad)) s) ∧ va_K D vwCl [(cJ, .long)] s := by
  have ht := hT.at (a := #[])
  have kn : ∀ {ci N : Nat} {C9 : String} {T9 : u_T} {ty9 : Nat → FieldType}, pw_CF ci C9 T9 N ty9 → Cond.instantiable C9 N ∈ pw_LG → ∃ (c : ClassId) (i : Nat → Nat), u_Kn s C9 T9 N c i := fun hc hi => u_known ht hc.2.1 (ht _ hi)
  obtain ⟨c0, i0, k0⟩ := kn cfX0 giX0
  obtain ⟨c1, i1, k1⟩ := kn cfX1 giX1
  obtain ⟨c2, i2, k2⟩ := kn cfX2 giX2
  obtain ⟨c3, i3, k3⟩ := kn cfX4 giX4
  obtain ⟨c4, i4, k4⟩ := kn cfX5 giX5
  obtain ⟨c5, i5, k5⟩ := kn cfX6 giX6
  obtain ⟨c6, i6, k6⟩ := kn cfX7 giX7
  obtain ⟨c7, i7, k7⟩ := kn cfX9 giX9
  obtain ⟨c8, i8, k8⟩ := kn cfX10 giL10
  obtain ⟨c9, i9, k9⟩ := kn cfX11 giL11
  obtain ⟨cI, kI, pI, fI, gI, hI⟩ := Cond.arrayClass_spec (ht _ kco_ar)
  obtain ⟨cJ, kJ, pJ, fJ, gJ, hJ⟩ := Cond.arrayClass_spec (ht _ gaL)
  obtain ⟨pS, cS, kS, fS1, -, gS, hS, fS⟩ := Cond.arrayOver_spec hAO
  obtain ⟨pF, cF, kF, fF1, -, gF, hF, fF⟩ := arrayOver_specB hAA
  have hC : ∀ (c : Nat) (q : vw_C), vwCl[c]? = some q → u_Kn s q.1 q.2.1 q.2.2 (([c0, c1, c2, c3, c4, c5, c6, c7, c8, c9] : List ClassId).getD c c0) (([i0, i1, i2, i3, i4, i5, i6, i7, i8, i9] : List (Nat → Nat)).getD c i0) := by
    intro c q hq
    match c, hq with
    | 0, hq => cases hq; exact k0
    | 1, hq => cases hq; exact k1
    | 2, hq => cases hq; exact k2
    | 3, hq => cases hq; exact k3
    | 4, hq => cases hq; exact k4
    | 5, hq => cases hq; exact k5
    | 6, hq => cases hq; exact k6
    | 7, hq => cases hq; exact k7
    | 8, hq => cases hq; exact k8
    | 9, hq => cases hq; exact k9
    | c + 10, hq => simp [vwCl] at hq
  refine ⟨(fun c => ([c0, c1, c2, c3, c4, c5, c6, c7, c8, c9] : List ClassId).getD c c0, fun c => ([i0, i1, i2, i3, i4, i5, i6, i7, i8, i9] : List (Nat → Nat)).getD c i0), cI, cS, cF, cJ, fun ad => ⟨hC, fun k q hq => ?_⟩, hC, fun k q hq => ?_⟩
  · match k, hq with
    | 0, hq => cases hq; exact ⟨fun n z => ⟨(fun k h => by cases h), kI, gI, pI, hI⟩, fI⟩
    | 1, hq => cases hq; exact ⟨fun n z => ⟨(fun k h => by cases h), kS, gS, pS, hS⟩, kS, pS, gS, hS, fS1, fS⟩
    | 2, hq => cases hq; exact ⟨fun n z => ⟨(fun k h => by cases h), kF, gF, pF, hF⟩, fF⟩
    | k + 3, hq => simp [pw_tys] at hq
  · match k, hq with
    | 0, hq => cases hq; exact ⟨fun n z => ⟨(fun k h => by cases h), kJ, gJ, pJ, hJ⟩, fJ⟩
    | k + 1, hq => simp at hq
