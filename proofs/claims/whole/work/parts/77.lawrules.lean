/-! THE LAW'S WALK: its rules, its links -/
set_option maxRecDepth 100000
abbrev lw_l (G : pw_G) (b o : Nat) (i : Int32) : List (Nat × Value) := [(4, .int i), (0, .ref b), (1, .ref (pw_ad G 0)), (2, .ref (pw_ad G 71)), (3, .ref o)]
/-- the script, and where one is in it -/
def LF (K : pw_K) (G : pw_G) (b L : Nat) (xs : Nat → Int32) (i : Int32) : Prop := va_X b L xs K.2.2.2.2.1 K.2.2.2.2.2.2.2.2.2.2.2.2 ∧ b < K.2.2.2.2.2.2.2.2.2.2.2.2.size ∧ ¬ pw_A G b ∧ vp_in i L ∧ vp_in (i + 1) L ∧ vp_in (i + 2) L ∧ vp_in (i + 3) L ∧ vp_in (i + 4) L ∧ vp_in (i + 5) L
theorem pw_sld {τ : Type} {K : pw_K} {G : pw_G} {own : String} {cc : ByteArray} {nL : Nat} {ret : Option FieldType} {d : Nat} {Q : τ → State → Prop} {x : Option τ} {pc : Nat} {l : List (Nat × Value)} {st : List Value} {μ : pw_Mem} {b L : Nat} {xs : Nat → Int32} {i j : Int32} (F : LF K G b L xs j) (hin : vp_in i L) (dg : decode cc pc = .ok (.iaload, 1)) (h : PW K G own cc nL ret d Q x (pc + 1) l (.int (xs i.toNatClampNeg) :: st) μ) : PW K G own cc nL ret d Q x pc l (.int i :: .ref b :: st) μ := fun r hr C H locs ls hl hW hS => va_sld C.1 C.2.1 F.1 F.2.1 F.2.2.1 hS hin dg (h r hr C H locs ls hl hW hS)
theorem lw_eq {τ : Type} {K : pw_K} {G : pw_G} {own : String} {cc : ByteArray} {nL : Nat} {ret : Option FieldType} {d : Nat} {Q : τ → State → Prop} {x : Option τ} {pc : Nat} {l : List (Nat × Value)} {st : List Value} {μ : pw_Mem} {a : Int32} {off : Int} {tgt : Nat} (dg : decode cc pc = .ok (.if_icmp .eq off, 3)) (ht : (pc : Int) + off = (tgt : Int)) (h : PW K G own cc nL ret d Q x tgt l st μ) : PW K G own cc nL ret d Q x pc l (.int a :: .int a :: st) μ := fun r hr C H locs ls hl hW hS => lv_icmp_eq C.1 C.2.1 dg ht (fun _ => h r hr C H locs ls hl hW hS) (fun hc => absurd rfl hc)
theorem lg_cmp_self (a : Int64) : lg_cmp a a = 0 := by
  unfold lg_cmp
  simp
theorem lw_leq {τ : Type} {K : pw_K} {G : pw_G} {own : String} {cc : ByteArray} {nL : Nat} {ret : Option FieldType} {d : Nat} {Q : τ → State → Prop} {x : Option τ} {pc : Nat} {l : List (Nat × Value)} {st : List Value} {μ : pw_Mem} {a : Int64} {off : Int} {tgt : Nat} (dg : decode cc pc = .ok (.lcmp, 1)) (dg2 : decode cc (pc + 1) = .ok (.ifCond .eq off, 3)) (ht : ((pc + 1 : Nat) : Int) + off = (tgt : Int)) (h : PW K G own cc nL ret d Q x tgt l st μ) : PW K G own cc nL ret d Q x pc l (.long a :: .long a :: st) μ :=
  pw_lcmp dg (by
    rw [lg_cmp_self]
    exact fun r hr C H locs ls hl hW hS => lv_if_eq C.1 C.2.1 dg2 ht (fun _ => h r hr C H locs ls hl hW hS) (fun hc => absurd rfl hc))
/-- a call of which one knows what comes of it -/
theorem pw_goV {τ : Type} {K : pw_K} {G : pw_G} {own : String} {cc : ByteArray} {nL : Nat} {ret : Option FieldType} {d : Nat} {Q : τ → State → Prop} {pc : Nat} {l : List (Nat × Value)} {st : List Value} {μ : pw_Mem} {α : Type} {cy : ByteArray} {nLy : Nat} {rety : Option FieldType} {dy o ci N : Nat} {fs : List (Option Nat)} {C9 : String} {T9 : u_T} {ty9 : Nat → FieldType} {av rest : List Value} {Py : α → Option Value × pw_Mem} {y : MethodName} {x1 : Option α} {r1 : α} {x : Option τ} {n i : Nat} (hM : PMet K.2.1 G y cy nLy rety dy (.ref (pw_ad G o) :: av) μ Py x1) (hx : x1 = some r1) (hs : pw_SH o = some (.inl (ci, fs))) (hc : pw_CF ci C9 T9 N ty9) (hy : y.cls = C9) (mi : pw_MV y cy nLy rety n) (hL : Cond.methodLink own i y ∈ pw_LG) (dg : decode cc pc = .ok (.invokevirtual i, 3)) (hst : st = av.reverse ++ .ref (pw_ad G o) :: rest) (hn : av.length = n) (hd : dy + 1 ≤ d ∧ nLy ≤ 40) (hw : (rest.map fun v => v.category).sum ≤ 8) (h : PW K G own cc nL ret d Q x (pc + 3) l ((Py r1).1.toList ++ rest) (Py r1).2) : PW K G own cc nL ret d Q x pc l st μ := by
  have hM' : PMet K.2.1 G y cy nLy rety dy (.ref (pw_ad G o) :: av) μ (fun w : {v // v = r1} => Py w.1) (some ⟨r1, rfl⟩) := fun w hw => by
    cases hw
    exact hM r1 hx
  exact pw_callV (x1 := some (⟨r1, rfl⟩ : {v // v = r1})) (k := fun _ => x) hM' hs hc hy mi hL dg hst hn hd hw (fun w => by
    obtain ⟨_, rfl⟩ := w
    exact h)
/-- .. that may throw, and does not -/
theorem px_goVX {τ : Type} {K : pw_K} {G : pw_G} {own : String} {cc : ByteArray} {nL : Nat} {ret : Option FieldType} {d : Nat} {Q : τ → State → Prop} {pc : Nat} {l : List (Nat × Value)} {st : List Value} {μ μ1 : pw_Mem} {u1 : Option Value} {α : Type} {cy : ByteArray} {nLy : Nat} {rety : Option FieldType} {dy : Nat} {hh : List (Nat × Nat × Nat × Nat)} {o ci N : Nat} {fs : List (Option Nat)} {C9 : String} {T9 : u_T} {ty9 : Nat → FieldType} {rest av : List Value} {Py : α → px_R} {y : MethodName} {x1 : Option α} {r1 : α} {x : Option τ} {n i : Nat} (hE : px_E G K.2.2.2.2.1 K.2.2.2.2.2.2.2.2.2.2.2.2) (hR : K.2.2.2.2.2.2.2.2.2.2.1 + 1 ≤ K.2.2.2.1.cells ∧ K.2.2.2.2.2.2.2.2.2.2.2.1 + 6 ≤ K.2.2.2.1.slots) (hM : XMet K.2.1 G y (.codeWith y cy nLy rety hh) dy (.ref (pw_ad G o) :: av) μ Py x1) (hx : x1 = some r1) (hp : Py r1 = .inl (u1, μ1)) (hs : pw_SH o = some (.inl (ci, fs))) (hc : pw_CF ci C9 T9 N ty9) (hy : y.cls = C9) (mi : Cond.codeWith y cy nLy rety hh ∈ pw_LG ∧ Cond.initialized y.cls ∈ pw_LG ∧ (y.cls ≠ "java/lang/invoke/MethodHandle" ∧ y.cls ≠ "java/lang/invoke/VarHandle") ∧ (parseMethodDescriptor y.desc).map (fun d => d.parameters.length) = some n ∧ Cond.instanceMethod y ∈ pw_LG ∧ Cond.selects y.cls y y ∈ pw_LG) (hL : Cond.methodLink own i y ∈ pw_LG) (dg : decode cc pc = .ok (.invokevirtual i, 3)) (hst : st = av.reverse ++ .ref (pw_ad G o) :: rest) (hn : av.length = n) (hd : dy + 1 ≤ d ∧ nLy ≤ 40) (hw : (rest.map fun v => v.category).sum ≤ 8)
    (h : PW (px_up K) G own cc nL ret d Q x (pc + 3) l (u1.toList ++ rest) μ1) : PW K G own cc nL ret d Q x pc l st μ := by
  have hM' : XMet K.2.1 G y (.codeWith y cy nLy rety hh) dy (.ref (pw_ad G o) :: av) μ (fun w : {v // v = r1} => Py w.1) (some ⟨r1, rfl⟩) := fun w hw => by
    cases hw
    exact hM r1 hx
  exact px_callVX (x1 := some (⟨r1, rfl⟩ : {v // v = r1})) (k := fun _ => x) hE hR hM' hs hc hy mi hL dg hst hn hd hw (fun w u μ' hw2 => by
    obtain ⟨_, rfl⟩ := w
    have q : (Sum.inl (u1, μ1) : px_R) = .inl (u, μ') := hp.symm.trans hw2
    cases q
    exact h) (fun w E μ' hw2 => by
    obtain ⟨_, rfl⟩ := w
    have q : (Sum.inl (u1, μ1) : px_R) = .inr (E, μ') := hp.symm.trans hw2
    cases q)
theorem mlL_21 : Cond.methodLink RL 21 yX10_town ∈ pw_LG := pw_inT 291 (by decide +kernel) (by decide +kernel)
theorem mlL_25 : Cond.methodLink RL 25 yX11_town ∈ pw_LG := pw_inT 1173 (by decide +kernel) (by decide +kernel)
theorem mlL_26 : Cond.methodLink RL 26 yX10_person ∈ pw_LG := pw_inT 441 (by decide +kernel) (by decide +kernel)
theorem mlL_30 : Cond.methodLink RL 30 yX11_person ∈ pw_LG := pw_inT 1287 (by decide +kernel) (by decide +kernel)
theorem mlL_31 : Cond.methodLink RL 31 yX10_band ∈ pw_LG := pw_inT 450 (by decide +kernel) (by decide +kernel)
theorem mlL_34 : Cond.methodLink RL 34 yX11_band ∈ pw_LG := pw_inT 1291 (by decide +kernel) (by decide +kernel)
theorem mlL_35 : Cond.methodLink RL 35 yX10_comes ∈ pw_LG := pw_inT 459 (by decide +kernel) (by decide +kernel)
theorem mlL_38 : Cond.methodLink RL 38 yX11_comes ∈ pw_LG := pw_inT 1295 (by decide +kernel) (by decide +kernel)
theorem mlL_39 : Cond.methodLink RL 39 yX10_ties ∈ pw_LG := pw_inT 465 (by decide +kernel) (by decide +kernel)
theorem mlL_43 : Cond.methodLink RL 43 yX11_ties ∈ pw_LG := pw_inT 1299 (by decide +kernel) (by decide +kernel)
theorem mlL_44 : Cond.methodLink RL 44 yX10_goes ∈ pw_LG := pw_inT 475 (by decide +kernel) (by decide +kernel)
theorem mlL_47 : Cond.methodLink RL 47 yX11_goes ∈ pw_LG := pw_inT 1307 (by decide +kernel) (by decide +kernel)
theorem mlL_48 : Cond.methodLink RL 48 yX10_cold ∈ pw_LG := pw_inT 480 (by decide +kernel) (by decide +kernel)
theorem mlL_51 : Cond.methodLink RL 51 yX11_cold ∈ pw_LG := pw_inT 1314 (by decide +kernel) (by decide +kernel)
theorem mlL_52 : Cond.methodLink RL 52 yX10_years ∈ pw_LG := pw_inT 485 (by decide +kernel) (by decide +kernel)
theorem mlL_55 : Cond.methodLink RL 55 yX11_years ∈ pw_LG := pw_inT 1318 (by decide +kernel) (by decide +kernel)
theorem mlL_56 : Cond.methodLink RL 56 yX10_cuts ∈ pw_LG := pw_inT 498 (by decide +kernel) (by decide +kernel)
theorem mlL_59 : Cond.methodLink RL 59 yX11_cuts ∈ pw_LG := pw_inT 1322 (by decide +kernel) (by decide +kernel)
theorem mlL_60 : Cond.methodLink RL 60 yX10_mayGo ∈ pw_LG := pw_inT 502 (by decide +kernel) (by decide +kernel)
theorem mlL_63 : Cond.methodLink RL 63 yX11_mayGo ∈ pw_LG := pw_inT 1329 (by decide +kernel) (by decide +kernel)
theorem mlL_64 : Cond.methodLink RL 64 yX10_rest ∈ pw_LG := pw_inT 513 (by decide +kernel) (by decide +kernel)
theorem mlL_67 : Cond.methodLink RL 67 yX11_rest ∈ pw_LG := pw_inT 1337 (by decide +kernel) (by decide +kernel)
theorem mlL_68 : Cond.methodLink RL 68 yX10_placeIn ∈ pw_LG := pw_inT 527 (by decide +kernel) (by decide +kernel)
theorem mlL_71 : Cond.methodLink RL 71 yX11_placeIn ∈ pw_LG := pw_inT 1342 (by decide +kernel) (by decide +kernel)
theorem mlL_72 : Cond.methodLink RL 72 yX10_snappedIn ∈ pw_LG := pw_inT 537 (by decide +kernel) (by decide +kernel)
theorem mlL_75 : Cond.methodLink RL 75 yX11_snappedIn ∈ pw_LG := pw_inT 1350 (by decide +kernel) (by decide +kernel)
theorem mlL_76 : Cond.methodLink RL 76 yX10_still ∈ pw_LG := pw_inT 541 (by decide +kernel) (by decide +kernel)
theorem mlL_80 : Cond.methodLink RL 80 yX11_still ∈ pw_LG := pw_inT 1354 (by decide +kernel) (by decide +kernel)
theorem mlL_81 : Cond.methodLink RL 81 yX10_firstSnap ∈ pw_LG := pw_inT 550 (by decide +kernel) (by decide +kernel)
theorem mlL_84 : Cond.methodLink RL 84 yX11_firstSnap ∈ pw_LG := pw_inT 1358 (by decide +kernel) (by decide +kernel)
theorem mlL_85 : Cond.methodLink RL 85 yX10_christmas ∈ pw_LG := pw_inT 561 (by decide +kernel) (by decide +kernel)
theorem mlL_88 : Cond.methodLink RL 88 yX11_christmas ∈ pw_LG := pw_inT 1362 (by decide +kernel) (by decide +kernel)
theorem mlL_89 : Cond.methodLink RL 89 yX10_order ∈ pw_LG := pw_inT 580 (by decide +kernel) (by decide +kernel)
theorem mlL_92 : Cond.methodLink RL 92 yX11_order ∈ pw_LG := pw_inT 1374 (by decide +kernel) (by decide +kernel)
theorem mlL_93 : Cond.methodLink RL 93 yX10_letGo ∈ pw_LG := pw_inT 619 (by decide +kernel) (by decide +kernel)
theorem mlL_96 : Cond.methodLink RL 96 yX11_letGo ∈ pw_LG := pw_inT 1382 (by decide +kernel) (by decide +kernel)
theorem mlL_97 : Cond.methodLink RL 97 yX10_crossing ∈ pw_LG := pw_inT 627 (by decide +kernel) (by decide +kernel)
theorem mlL_100 : Cond.methodLink RL 100 yX11_crossing ∈ pw_LG := pw_inT 1386 (by decide +kernel) (by decide +kernel)
theorem mlL_101 : Cond.methodLink RL 101 yX10_untangle ∈ pw_LG := pw_inT 662 (by decide +kernel) (by decide +kernel)
theorem mlL_104 : Cond.methodLink RL 104 yX11_untangle ∈ pw_LG := pw_inT 1398 (by decide +kernel) (by decide +kernel)
theorem mlL_105 : Cond.methodLink RL 105 yX10_clans ∈ pw_LG := pw_inT 674 (by decide +kernel) (by decide +kernel)
theorem mlL_108 : Cond.methodLink RL 108 yX11_clans ∈ pw_LG := pw_inT 1409 (by decide +kernel) (by decide +kernel)
theorem mlL_109 : Cond.methodLink RL 109 yX10_cousins ∈ pw_LG := pw_inT 696 (by decide +kernel) (by decide +kernel)
theorem mlL_112 : Cond.methodLink RL 112 yX11_cousins ∈ pw_LG := pw_inT 1417 (by decide +kernel) (by decide +kernel)
theorem mlL_113 : Cond.methodLink RL 113 yX10_bridges ∈ pw_LG := pw_inT 704 (by decide +kernel) (by decide +kernel)
theorem mlL_116 : Cond.methodLink RL 116 yX11_bridges ∈ pw_LG := pw_inT 1421 (by decide +kernel) (by decide +kernel)
theorem mlL_117 : Cond.methodLink RL 117 yX10_renew ∈ pw_LG := pw_inT 713 (by decide +kernel) (by decide +kernel)
theorem mlL_120 : Cond.methodLink RL 120 yX11_renew ∈ pw_LG := pw_inT 1425 (by decide +kernel) (by decide +kernel)
theorem mlL_121 : Cond.methodLink RL 121 yX10_frost ∈ pw_LG := pw_inT 733 (by decide +kernel) (by decide +kernel)
theorem mlL_124 : Cond.methodLink RL 124 yX11_frost ∈ pw_LG := pw_inT 1433 (by decide +kernel) (by decide +kernel)
theorem mlL_125 : Cond.methodLink RL 125 yX10_lurch ∈ pw_LG := pw_inT 743 (by decide +kernel) (by decide +kernel)
theorem mlL_128 : Cond.methodLink RL 128 yX11_lurch ∈ pw_LG := pw_inT 1437 (by decide +kernel) (by decide +kernel)
theorem mlL_129 : Cond.methodLink RL 129 yX10_gauges ∈ pw_LG := pw_inT 765 (by decide +kernel) (by decide +kernel)
theorem mlL_132 : Cond.methodLink RL 132 yX11_gauges ∈ pw_LG := pw_inT 1449 (by decide +kernel) (by decide +kernel)
theorem mlL_133 : Cond.methodLink RL 133 yX10_two ∈ pw_LG := pw_inT 781 (by decide +kernel) (by decide +kernel)
theorem mlL_136 : Cond.methodLink RL 136 yX11_two ∈ pw_LG := pw_inT 1453 (by decide +kernel) (by decide +kernel)
theorem mlL_137 : Cond.methodLink RL 137 yX10_night ∈ pw_LG := pw_inT 815 (by decide +kernel) (by decide +kernel)
theorem mlL_141 : Cond.methodLink RL 141 yX11_night ∈ pw_LG := pw_inT 1461 (by decide +kernel) (by decide +kernel)
theorem mlL_142 : Cond.methodLink RL 142 yX10_mean ∈ pw_LG := pw_inT 848 (by decide +kernel) (by decide +kernel)
theorem mlL_146 : Cond.methodLink RL 146 yX11_mean ∈ pw_LG := pw_inT 1472 (by decide +kernel) (by decide +kernel)
theorem mlL_147 : Cond.methodLink RL 147 yX10_farthest ∈ pw_LG := pw_inT 856 (by decide +kernel) (by decide +kernel)
theorem mlL_150 : Cond.methodLink RL 150 yX11_farthest ∈ pw_LG := pw_inT 1476 (by decide +kernel) (by decide +kernel)
theorem mlL_151 : Cond.methodLink RL 151 yX10_forged ∈ pw_LG := pw_inT 865 (by decide +kernel) (by decide +kernel)
theorem mlL_154 : Cond.methodLink RL 154 yX11_forged ∈ pw_LG := pw_inT 1480 (by decide +kernel) (by decide +kernel)
theorem mlL_155 : Cond.methodLink RL 155 yX10_judge ∈ pw_LG := pw_inT 882 (by decide +kernel) (by decide +kernel)
theorem mlL_158 : Cond.methodLink RL 158 yX11_judge ∈ pw_LG := pw_inT 1484 (by decide +kernel) (by decide +kernel)
theorem mlL_159 : Cond.methodLink RL 159 yX10_generations ∈ pw_LG := pw_inT 893 (by decide +kernel) (by decide +kernel)
theorem mlL_162 : Cond.methodLink RL 162 yX11_generations ∈ pw_LG := pw_inT 1488 (by decide +kernel) (by decide +kernel)
theorem mlL_163 : Cond.methodLink RL 163 yX10_image ∈ pw_LG := pw_inT 917 (by decide +kernel) (by decide +kernel)
theorem mlL_166 : Cond.methodLink RL 166 yX11_image ∈ pw_LG := pw_inT 1502 (by decide +kernel) (by decide +kernel)
theorem mlL_167 : Cond.methodLink RL 167 yX10_restore ∈ pw_LG := pw_inT 921 (by decide +kernel) (by decide +kernel)
theorem mlL_170 : Cond.methodLink RL 170 yX11_restore ∈ pw_LG := pw_inT 1506 (by decide +kernel) (by decide +kernel)
theorem mlL_171 : Cond.methodLink RL 171 yX10_count ∈ pw_LG := pw_inT 925 (by decide +kernel) (by decide +kernel)
theorem mlL_174 : Cond.methodLink RL 174 yX11_count ∈ pw_LG := pw_inT 1510 (by decide +kernel) (by decide +kernel)
theorem mlL_175 : Cond.methodLink RL 175 yX10_keep ∈ pw_LG := pw_inT 934 (by decide +kernel) (by decide +kernel)
theorem mlL_179 : Cond.methodLink RL 179 yX11_keep ∈ pw_LG := pw_inT 1518 (by decide +kernel) (by decide +kernel)
theorem mlL_180 : Cond.methodLink RL 180 yX10_row ∈ pw_LG := pw_inT 942 (by decide +kernel) (by decide +kernel)
theorem mlL_183 : Cond.methodLink RL 183 yX11_row ∈ pw_LG := pw_inT 1522 (by decide +kernel) (by decide +kernel)
theorem mlL_184 : Cond.methodLink RL 184 yX10_put ∈ pw_LG := pw_inT 950 (by decide +kernel) (by decide +kernel)
theorem mlL_187 : Cond.methodLink RL 187 yX11_put ∈ pw_LG := pw_inT 1526 (by decide +kernel) (by decide +kernel)
theorem mlL_188 : Cond.methodLink RL 188 yL_element ∈ pw_LG := pw_inT 1087 (by decide +kernel) (by decide +kernel)
theorem mlL_193 : Cond.methodLink RL 193 yX11_element ∈ pw_LG := pw_inT 1530 (by decide +kernel) (by decide +kernel)
theorem mlL_194 : Cond.methodLink RL 194 yX11_thrown ∈ pw_LG := pw_inT 1514 (by decide +kernel) (by decide +kernel)
theorem mlL_197 : Cond.methodLink RL 197 yX10_copy ∈ pw_LG := pw_inT 959 (by decide +kernel) (by decide +kernel)
theorem mlL_201 : Cond.methodLink RL 201 yX11_copy ∈ pw_LG := pw_inT 1534 (by decide +kernel) (by decide +kernel)
theorem mlL_202 : Cond.methodLink RL 202 yX10_cost ∈ pw_LG := pw_inT 970 (by decide +kernel) (by decide +kernel)
theorem mlL_205 : Cond.methodLink RL 205 yX11_cost ∈ pw_LG := pw_inT 1538 (by decide +kernel) (by decide +kernel)
theorem mlL_206 : Cond.methodLink RL 206 yX10_toss ∈ pw_LG := pw_inT 977 (by decide +kernel) (by decide +kernel)
theorem mlL_209 : Cond.methodLink RL 209 yX11_toss ∈ pw_LG := pw_inT 1545 (by decide +kernel) (by decide +kernel)
theorem miX10_toss : Cond.codeWith yX10_toss cX10_toss 6 (some .int) px_tT ∈ pw_LG ∧ Cond.initialized yX10_toss.cls ∈ pw_LG ∧ (yX10_toss.cls ≠ "java/lang/invoke/MethodHandle" ∧ yX10_toss.cls ≠ "java/lang/invoke/VarHandle") ∧ (parseMethodDescriptor yX10_toss.desc).map (fun d => d.parameters.length) = some 1 ∧ Cond.instanceMethod yX10_toss ∈ pw_LG ∧ Cond.selects yX10_toss.cls yX10_toss yX10_toss ∈ pw_LG := ⟨pw_inT 980 (by decide +kernel) (by decide +kernel), pw_inT 1 (by decide +kernel) (by decide +kernel), ⟨by decide +kernel, by decide +kernel⟩, by decide +kernel, pw_inT 978 (by decide +kernel) (by decide +kernel), pw_inT 979 (by decide +kernel) (by decide +kernel)⟩
theorem miL_element : Cond.codeWith yL_element cL_element 5 (some .int) px_tE ∈ pw_LG ∧ Cond.initialized yL_element.cls ∈ pw_LG ∧ (yL_element.cls ≠ "java/lang/invoke/MethodHandle" ∧ yL_element.cls ≠ "java/lang/invoke/VarHandle") ∧ (parseMethodDescriptor yL_element.desc).map (fun d => d.parameters.length) = some 4 ∧ Cond.static yL_element ∈ pw_LG := ⟨pw_inT 1089 (by decide +kernel) (by decide +kernel), pw_inT 0 (by decide +kernel) (by decide +kernel), ⟨by decide +kernel, by decide +kernel⟩, by decide +kernel, pw_inT 1088 (by decide +kernel) (by decide +kernel)⟩
