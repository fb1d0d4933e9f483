/-! WHAT LIES THERE FROM THE START AND IS NEVER WRITTEN: statics, String constants, words of the tables that aren't carried by themselves. ao 0: ArrayList's empty array; ao (1 + 2 j): the j-th text, ao (2 + 2 j): its bytes; ao 99: the script -/
noncomputable def mz_nk : Jvm.Cond → Bool
  | .fieldLinkNest .. => true
  | .methodLinkNest .. => true
  | .castable .. => true
  | .declares _ => true
  | _ => false
theorem mz_nk_warm {w : Jvm.Cond} {s U : State} (hw : mz_nk w = true) (hW : s.WarmedH U.vm) (h : va_Nw w s) : va_Nw w U := by
  cases w with
  | fieldLinkNest a b c d e f => exact va_Nw.warmF hW h
  | methodLinkNest a b c d => exact va_Nw.warmM hW h
  | castable a b => exact va_Nw.warmC hW h
  | declares a => exact va_Nw.warmD hW h
  | _ => cases hw
noncomputable def mz_hasN : MethodName := ⟨"java/util/Iterator", "hasNext", "()Z"⟩
noncomputable def mz_nextN : MethodName := ⟨"java/util/Iterator", "next", "()Ljava/lang/Object;"⟩
/-- what the class throws -/
noncomputable def mz_xs : List String := ["java/lang/IndexOutOfBoundsException", "java/lang/IllegalArgumentException", "java/lang/IllegalStateException", "java/util/NoSuchElementException", "java/lang/ArithmeticException"]
noncomputable def mz_itr : String := "java/util/ArrayList$Itr"
noncomputable def mz_O (ao : Nat → Nat) (A : Nat → Prop) (U : State) (H : Heap) : Prop :=
  (vx_Zq Bundle.tN "UNASSIGNED_STACK" Bundle.steD A U H ∧ vx_Zq Bundle.tN "SUPPRESSED_SENTINEL" Bundle.listD A U H) ∧
  (va_Z "java/util/ArrayList" "DEFAULTCAPACITY_EMPTY_ELEMENTDATA" "[Ljava/lang/Object;" (.ref (ao 0)) A U H ∧ va_T (.object "java/lang/Object") (ao 0) 0 (fun _ => .null) A U H) ∧
  va_Z "java/lang/String" "COMPACT_STRINGS" "Z" (.int 1) A U H ∧
  (∀ q ∈ mz_msgs, ∃ a, vk_R q.1 q.2.1 q.2.2 a U) ∧
  (∀ (j : Nat) (q : String × Nat × String × List Int32), mz_strs[j]? = some q → vk_R q.1 q.2.1 q.2.2.1 (ao (1 + 2 * j)) U ∧ va_O "java/lang/String" (ao (1 + 2 * j)) A U H ∧ va_OF "java/lang/String" "coder" "B" (.int 0) (ao (1 + 2 * j)) A U H ∧
    va_OF "java/lang/String" "value" "[B" (.ref (ao (2 + 2 * j))) (ao (1 + 2 * j)) A U H ∧ va_T .byte (ao (2 + 2 * j)) q.2.2.2.length (fun i => .int (q.2.2.2.getD i 0)) A U H) ∧
  (∀ w ∈ lw_tbl, mz_nk w = true → va_Nw w U) ∧ (∀ C0, Jvm.Cond.arrayOver (.object C0) ∈ lw_tbl → va_AO C0 U) ∧
  va_Fw mz_itr mz_hasN ⟨mz_itr, "hasNext", "()Z"⟩ U ∧ va_Fw mz_itr mz_nextN ⟨mz_itr, "next", "()Ljava/lang/Object;"⟩ U ∧ ∀ E ∈ mz_xs, ∀ T ∈ mz_xs, E ≠ T → va_Nc E T U
theorem mz_O_call {ao : Nat → Nat} {A B : Nat → Prop} {s U : State} {H : Heap} {locs : List Loc} (h : mz_O ao A s s.heap) (hS : va_S A s.heap H locs) (hU : U.heap = H) (hW : s.WarmedH U.vm) (hAB : ∀ q, B q → A q) : mz_O ao B U U.heap := by
  obtain ⟨⟨h1, h2⟩, ⟨h3, h4⟩, h5, h6, h7, h8, h9, h10, h11, h12⟩ := h
  have hq := hS.2.1
  have al := hW.alike
  rw [hU]
  refine ⟨⟨?_, ?_⟩, ⟨?_, ?_⟩, ?_, ?_, ?_, ?_, ?_, ?_, ?_, ?_⟩
  · exact vx_Zq.narrow (vx_Zq.moved al (vx_Zq.kept h1 hq)) hAB
  · exact vx_Zq.narrow (vx_Zq.moved al (vx_Zq.kept h2 hq)) hAB
  · exact va_Z.narrow (va_Z.moved al (va_Z.kept h3 hq)) hAB
  · exact va_T.narrow (va_T.moved al (va_T.kept h4 hq)) hAB
  · exact va_Z.narrow (va_Z.moved al (va_Z.kept h5 hq)) hAB
  · intro q hq2
    obtain ⟨a, ha⟩ := h6 q hq2
    exact ⟨a, vk_R.warm hW ha⟩
  · intro j q hj
    obtain ⟨g1, g2, g3, g4, g5⟩ := h7 j q hj
    exact ⟨vk_R.warm hW g1, va_O.narrow (va_O.moved al (va_O.kept g2 hq)) hAB, va_OF.narrow (va_OF.moved al (va_OF.kept g3 hq)) hAB, va_OF.narrow (va_OF.moved al (va_OF.kept g4 hq)) hAB, va_T.narrow (va_T.moved al (va_T.kept g5 hq)) hAB⟩
  · exact fun w hw hn => mz_nk_warm hn hW (h8 w hw hn)
  · exact fun C0 hC => va_AO.moved al (h9 C0 hC)
  · exact va_Fw.moved (by decide) al h10
  · exact va_Fw.moved (by decide) al h11
  · exact fun E hE T hT hne => va_Nc.moved al (h12 E hE T hT hne)
section MZB
variable {X : mz_Xt} {cc : ByteArray} {own : String} {Ts : List Jvm.Cond} {F : Nat → Nat × Nat} {pc L M K n top nc ns : Nat} {st : List Nat}
/-- what lies there, at the walk's start -/
noncomputable def mz_OX : mz_Xt → Prop
  | (p, l, e, R, s, m, args, below, meth, c, nL, D, cA, ao, ρ, A, n0, ad0, Q) => mz_O ao A s s.heap
/-- the word of the old thing i -/
noncomputable def mz_ow (i : Nat) : Nat := Nat.add 2 (Nat.mul 16 (Nat.add 1048577 i))
theorem mz_ow_ok {ad ao : Nat → Nat} {ρ : Nat → Int32} (i : Nat) : mz_c ad ao ρ (mz_ow i) = .ref (ao i) ∧ mz_cl n (mz_ow i) = true := by
  obtain ⟨h1, h2⟩ := mz_tag 2 (1048577 + i) (by decide)
  have hR : mz_R (mz_ow i) = true := by
    show Nat.beq ((2 + 16 * (1048577 + i)) % 16) 2 = true
    rw [h1]; rfl
  refine ⟨?_, mz_cl_of fun _ => Or.inr ?_⟩
  · rw [mz_cR hR, show mz_ow i / 16 = 1048577 + i from h2, mz_r_old (by omega), show 1048577 + i - 1048577 = i by omega]
  · rw [show mz_ow i / 16 = 1048577 + i from h2]; omega
theorem mz_getE {idx : Nat} (C : mz_Cx X cc own Ts F) (O : mz_OX X) (hd : decode cc pc = .ok (.getstatic idx, 3)) (hlink : mz_bf X (Jvm.Cond.fieldLink own idx "java/util/ArrayList" "DEFAULTCAPACITY_EMPTY_ELEMENTDATA" "[Ljava/lang/Object;")) (k : mz_G X (pc + 3) L (mz_ow 0 :: st) M K n top nc ns) : mz_G X pc L st M K n top nc ns := by
  obtain ⟨p, l, e, R, s, m, args, below, meth, c, nL, D, cA, ao, ρ, A, n0, ad0, Q⟩ := X
  obtain ⟨hex, hb, hml, hown, hts, hK, hA, hF, hV⟩ := C
  intro ad ls H locs hn had hZ hls hst
  obtain ⟨z1, z2⟩ := mz_ow_ok (n := n) (ad := ad) (ao := ao) (ρ := ρ) 0
  have q := k ad ls H locs hn had hZ hls (mz_hd z2 hst)
  rw [List.map_cons, z1] at q
  exact va_gets hex hb O.2.1.1 hZ.2.2.1 hown hlink (fun _ h => h) hd q
theorem mz_getCS {idx : Nat} (C : mz_Cx X cc own Ts F) (O : mz_OX X) (hd : decode cc pc = .ok (.getstatic idx, 3)) (hlink : mz_bf X (Jvm.Cond.fieldLink own idx "java/lang/String" "COMPACT_STRINGS" "Z")) (k : mz_G X (pc + 3) L (mz_n 1 :: st) M K n top nc ns) : mz_G X pc L st M K n top nc ns := by
  obtain ⟨p, l, e, R, s, m, args, below, meth, c, nL, D, cA, ao, ρ, A, n0, ad0, Q⟩ := X
  obtain ⟨hex, hb, hml, hown, hts, hK, hA, hF, hV⟩ := C
  intro ad ls H locs hn had hZ hls hst
  have q := k ad ls H locs hn had hZ hls (mz_hd (mz_cl_I (mz_nw (ρ := ρ) 1).1) hst)
  rw [List.map_cons, mz_cI (mz_nw (ρ := ρ) 1).1, (mz_nw (ρ := ρ) 1).2] at q
  exact va_gets hex hb O.2.2.1 hZ.2.2.1 hown hlink (fun _ h => h) hd q
theorem mz_ldcs {idx j : Nat} {tx : String} {bs : List Int32} (C : mz_Cx X cc own Ts F) (O : mz_OX X) (hd : decode cc pc = .ok (.ldc idx, 2)) (hj : mz_strs[j]? = some (own, idx, tx, bs)) (k : mz_G X (pc + 2) L (mz_ow (1 + 2 * j) :: st) M K n top nc ns) : mz_G X pc L st M K n top nc ns := by
  obtain ⟨p, l, e, R, s, m, args, below, meth, c, nL, D, cA, ao, ρ, A, n0, ad0, Q⟩ := X
  obtain ⟨hex, hb, hml, hown, hts, hK, hA, hF, hV⟩ := C
  intro ad ls H locs hn had hZ hls hst
  obtain ⟨z1, z2⟩ := mz_ow_ok (n := n) (ad := ad) (ao := ao) (ρ := ρ) (1 + 2 * j)
  have q := k ad ls H locs hn had hZ hls (mz_hd z2 hst)
  rw [List.map_cons, z1] at q
  exact va_ldcS hex hb hown (O.2.2.2.2.1 j _ hj).1 hd q
theorem mz_strV {idx j : Nat} {q : String × Nat × String × List Int32} (C : mz_Cx X cc own Ts F) (O : mz_OX X) (hd : decode cc pc = .ok (.getfield idx, 3)) (hj : mz_strs[j]? = some q) (hlink : mz_bf X (Jvm.Cond.fieldLink own idx "java/lang/String" "value" "[B")) (k : mz_G X (pc + 3) L (mz_ow (2 + 2 * j) :: st) M K n top nc ns) : mz_G X pc L (mz_ow (1 + 2 * j) :: st) M K n top nc ns := by
  obtain ⟨p, l, e, R, s, m, args, below, meth, c, nL, D, cA, ao, ρ, A, n0, ad0, Q⟩ := X
  obtain ⟨hex, hb, hml, hown, hts, hK, hA, hF, hV⟩ := C
  intro ad ls H locs hn had hZ hls hst
  obtain ⟨z1, z2⟩ := mz_ow_ok (n := n) (ad := ad) (ao := ao) (ρ := ρ) (2 + 2 * j)
  have y := k ad ls H locs hn had hZ hls (mz_hd z2 (List.forall_mem_cons.mp hst).2)
  rw [List.map_cons, z1] at y
  rw [List.map_cons, (mz_ow_ok (n := n) (ad := ad) (ao := ao) (ρ := ρ) (1 + 2 * j)).1]
  exact vk_getf hex hb (O.2.2.2.2.1 j _ hj).2.2.2.1 hZ.2.2.1 hown hlink (fun _ h => h) hd y
theorem mz_strC {idx j : Nat} {q : String × Nat × String × List Int32} (C : mz_Cx X cc own Ts F) (O : mz_OX X) (hd : decode cc pc = .ok (.getfield idx, 3)) (hj : mz_strs[j]? = some q) (hlink : mz_bf X (Jvm.Cond.fieldLink own idx "java/lang/String" "coder" "B")) (k : mz_G X (pc + 3) L (mz_n 0 :: st) M K n top nc ns) : mz_G X pc L (mz_ow (1 + 2 * j) :: st) M K n top nc ns := by
  obtain ⟨p, l, e, R, s, m, args, below, meth, c, nL, D, cA, ao, ρ, A, n0, ad0, Q⟩ := X
  obtain ⟨hex, hb, hml, hown, hts, hK, hA, hF, hV⟩ := C
  intro ad ls H locs hn had hZ hls hst
  have y := k ad ls H locs hn had hZ hls (mz_hd (mz_cl_I (mz_nw (ρ := ρ) 0).1) (List.forall_mem_cons.mp hst).2)
  rw [List.map_cons, mz_cI (mz_nw (ρ := ρ) 0).1, (mz_nw (ρ := ρ) 0).2] at y
  rw [List.map_cons, (mz_ow_ok (n := n) (ad := ad) (ao := ao) (ρ := ρ) (1 + 2 * j)).1]
  exact vk_getf hex hb (O.2.2.2.2.1 j _ hj).2.2.1 hZ.2.2.1 hown hlink (fun _ h => h) hd y
theorem mz_strL {j : Nat} {q : String × Nat × String × List Int32} (C : mz_Cx X cc own Ts F) (O : mz_OX X) (hd : decode cc pc = .ok (.arraylength, 1)) (hj : mz_strs[j]? = some q) (k : mz_G X (pc + 1) L (mz_n q.2.2.2.length :: st) M K n top nc ns) : mz_G X pc L (mz_ow (2 + 2 * j) :: st) M K n top nc ns := by
  obtain ⟨p, l, e, R, s, m, args, below, meth, c, nL, D, cA, ao, ρ, A, n0, ad0, Q⟩ := X
  obtain ⟨hex, hb, hml, hown, hts, hK, hA, hF, hV⟩ := C
  intro ad ls H locs hn had hZ hls hst
  have y := k ad ls H locs hn had hZ hls (mz_hd (mz_cl_I (mz_nw (ρ := ρ) _).1) (List.forall_mem_cons.mp hst).2)
  rw [List.map_cons, mz_cI (mz_nw (ρ := ρ) _).1, (mz_nw (ρ := ρ) _).2] at y
  rw [List.map_cons, (mz_ow_ok (n := n) (ad := ad) (ao := ao) (ρ := ρ) (2 + 2 * j)).1]
  exact va_tlen hex hb (O.2.2.2.2.1 j _ hj).2.2.2.2 hZ.2.2.1 rfl hd y
theorem mz_emptyL (C : mz_Cx X cc own Ts F) (O : mz_OX X) (hd : decode cc pc = .ok (.arraylength, 1)) (k : mz_G X (pc + 1) L (mz_n 0 :: st) M K n top nc ns) : mz_G X pc L (mz_ow 0 :: st) M K n top nc ns := by
  obtain ⟨p, l, e, R, s, m, args, below, meth, c, nL, D, cA, ao, ρ, A, n0, ad0, Q⟩ := X
  obtain ⟨hex, hb, hml, hown, hts, hK, hA, hF, hV⟩ := C
  intro ad ls H locs hn had hZ hls hst
  have y := k ad ls H locs hn had hZ hls (mz_hd (mz_cl_I (mz_nw (ρ := ρ) _).1) (List.forall_mem_cons.mp hst).2)
  rw [List.map_cons, mz_cI (mz_nw (ρ := ρ) _).1, (mz_nw (ρ := ρ) _).2] at y
  rw [List.map_cons, (mz_ow_ok (n := n) (ad := ad) (ao := ao) (ρ := ρ) 0).1]
  exact va_tlen hex hb O.2.1.2 hZ.2.2.1 rfl hd y
theorem mz_strB {j i b : Nat} {q : String × Nat × String × List Int32} (C : mz_Cx X cc own Ts F) (O : mz_OX X) (hd : decode cc pc = .ok (.baload, 1)) (hj : mz_strs[j]? = some q) (hi : mz_sm i = true) (hl : mz_q i < q.2.2.2.length) (hb2 : q.2.2.2.getD (mz_q i) 0 = nI b) (k : mz_G X (pc + 1) L (mz_n b :: st) M K n top nc ns) : mz_G X pc L (i :: mz_ow (2 + 2 * j) :: st) M K n top nc ns := by
  obtain ⟨p, l, e, R, s, m, args, below, meth, c, nL, D, cA, ao, ρ, A, n0, ad0, Q⟩ := X
  obtain ⟨hex, hb, hml, hown, hts, hK, hA, hF, hV⟩ := C
  intro ad ls H locs hn had hZ hls hst
  obtain ⟨i1, i2, i3⟩ := mz_ix (ρ := ρ) hi hl
  have y := k ad ls H locs hn had hZ hls (mz_hd (mz_cl_I (mz_nw (ρ := ρ) _).1) (List.forall_mem_cons.mp (List.forall_mem_cons.mp hst).2).2)
  rw [List.map_cons, mz_cI (mz_nw (ρ := ρ) _).1, (mz_nw (ρ := ρ) _).2] at y
  rw [List.map_cons, List.map_cons, (mz_ow_ok (n := n) (ad := ad) (ao := ao) (ρ := ρ) (2 + 2 * j)).1, mz_cI i1]
  refine va_tb (v := .int (nI b)) hex hb (O.2.2.2.2.1 j _ hj).2.2.2.2 hZ.2.2.1 i2 ?_ hd y
  show Value.int (q.2.2.2.getD (mz_i ρ i).toNatClampNeg 0) = _
  rw [i3, hb2]
end MZB
