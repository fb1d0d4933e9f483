noncomputable def mz_rho : mz_Xt → Nat → Int32
  | (p, l, e, R, s, m, args, below, meth, c, nL, D, cA, ao, ρ, A, n0, ad0, Q) => ρ
section MZ2
variable {X : mz_Xt} {cc : ByteArray} {own : String} {Ts : List Jvm.Cond} {F : Nat → Nat × Nat} {pc L M K n top nc ns : Nat} {st : List Nat}
theorem mz_istore {i w : Nat} (C : mz_Cx X cc own Ts F) (hd : decode cc pc = .ok (.istore i, 2)) (hw : mz_I w = true) (hv : w < mz_B) (h4 : mz_b4 L i = true) (hn4 : i < mz_nL X) (k : mz_G X (pc + 2) (mz_p L i w) st M K n top nc ns) : mz_G X pc L (w :: st) M K n top nc ns := by
  obtain ⟨p, l, e, R, s, m, args, below, meth, c, nL, D, cA, ao, ρ, A, n0, ad0, Q⟩ := X
  obtain ⟨hx, hb, -⟩ := C
  intro ad ls H locs hn had hZ hl hst
  rw [List.map_cons, mz_cI hw]
  refine lv_istore hx hb hd (mz_lv_has hl) hn4 rfl fun ls' h' => ?_
  rw [← mz_cI (ad := ad) (ao := ao) hw] at h'
  exact k ad ls' H locs hn had hZ (mz_store1 hl hv (mz_cl_I hw) h4 h') (List.forall_mem_cons.mp hst).2
theorem mz_astore_n {j : Fin 4} {w : Nat} (C : mz_Cx X cc own Ts F) (hd : decode cc pc = .ok (.astore_n j, 1)) (hw : mz_R w = true) (hv : w < mz_B) (h4 : mz_b4 L j.val = true) (hn4 : j.val < mz_nL X) (k : mz_G X (pc + 1) (mz_p L j.val w) st M K n top nc ns) : mz_G X pc L (w :: st) M K n top nc ns := by
  obtain ⟨p, l, e, R, s, m, args, below, meth, c, nL, D, cA, ao, ρ, A, n0, ad0, Q⟩ := X
  obtain ⟨hx, hb, -⟩ := C
  intro ad ls H locs hn had hZ hl hst
  have hs := List.forall_mem_cons.mp hst
  rw [List.map_cons]
  rcases mz_r_or (ad := ad) (ao := ao) (w / 16) with z | ⟨a, z⟩
  · have e1 : mz_c ad ao ρ w = .null := by rw [mz_cR hw, z]
    rw [e1]
    refine lv_astore_nN hx hb hd rfl (mz_lv_has hl) hn4 rfl fun ls' h' => ?_
    rw [← e1] at h'
    exact k ad ls' H locs hn had hZ (mz_store1 hl hv hs.1 h4 h') hs.2
  · have e1 : mz_c ad ao ρ w = .ref a := by rw [mz_cR hw, z]
    rw [e1]
    refine lv_astore_n hx hb hd rfl (mz_lv_has hl) hn4 rfl fun ls' h' => ?_
    rw [← e1] at h'
    exact k ad ls' H locs hn had hZ (mz_store1 hl hv hs.1 h4 h') hs.2
theorem mz_astore {i w : Nat} (C : mz_Cx X cc own Ts F) (hd : decode cc pc = .ok (.astore i, 2)) (hw : mz_R w = true) (hv : w < mz_B) (h4 : mz_b4 L i = true) (hn4 : i < mz_nL X) (k : mz_G X (pc + 2) (mz_p L i w) st M K n top nc ns) : mz_G X pc L (w :: st) M K n top nc ns := by
  obtain ⟨p, l, e, R, s, m, args, below, meth, c, nL, D, cA, ao, ρ, A, n0, ad0, Q⟩ := X
  obtain ⟨hx, hb, -⟩ := C
  intro ad ls H locs hn had hZ hl hst
  have hs := List.forall_mem_cons.mp hst
  rw [List.map_cons]
  rcases mz_r_or (ad := ad) (ao := ao) (w / 16) with z | ⟨a, z⟩
  · have e1 : mz_c ad ao ρ w = .null := by rw [mz_cR hw, z]
    rw [e1]
    refine lv_astoreN hx hb hd (mz_lv_has hl) hn4 rfl fun ls' h' => ?_
    rw [← e1] at h'
    exact k ad ls' H locs hn had hZ (mz_store1 hl hv hs.1 h4 h') hs.2
  · have e1 : mz_c ad ao ρ w = .ref a := by rw [mz_cR hw, z]
    rw [e1]
    refine lv_astore hx hb hd (mz_lv_has hl) hn4 rfl fun ls' h' => ?_
    rw [← e1] at h'
    exact k ad ls' H locs hn had hZ (mz_store1 hl hv hs.1 h4 h') hs.2
theorem mz_fstore {i : Nat} (C : mz_Cx X cc own Ts F) (hd : decode cc pc = .ok (.fstore i, 2)) (h4 : mz_b4 L i = true) (hn4 : i < mz_nL X) (k : mz_G X (pc + 2) (mz_p L i 7) st M K n top nc ns) : mz_G X pc L (7 :: st) M K n top nc ns := by
  obtain ⟨p, l, e, R, s, m, args, below, meth, c, nL, D, cA, ao, ρ, A, n0, ad0, Q⟩ := X
  obtain ⟨hx, hb, -⟩ := C
  intro ad ls H locs hn had hZ hl hst
  have hs := List.forall_mem_cons.mp hst
  rw [List.map_cons]
  have e1 : mz_c ad ao ρ 7 = .float 0 := by simp [mz_c]
  rw [e1]
  refine lv_fstore hx hb hd (mz_lv_has hl) hn4 rfl fun ls' h' => ?_
  rw [← e1] at h'
  exact k ad ls' H locs hn had hZ (mz_store1 hl (by decide) hs.1 h4 h') hs.2
theorem mz_store2 {ad ao : Nat → Nat} {ρ : Nat → Int32} {nL i w : Nat} {ls ls' : Array Slot} (h : mz_ls ad ao ρ n nL ls L) (hv : w < mz_B) (hc : mz_cl n w = true) (h4 : mz_b4 L i = true)
    (h' : lv_has ls' nL ((i, mz_c ad ao ρ w) :: (mz_lv ad ao ρ L nL).filter (fun q => !(q.1 == i) && (!(q.1 == i + 1) && !(q.1 + 1 == i && q.2.category == 2))))) : mz_ls ad ao ρ n nL ls' (mz_p (mz_p L i w) (i + 1) 0) := by
  have hz : (0 : Nat) < mz_B := by decide
  refine ⟨h'.1, h'.2.1, fun j hj => ?_, fun j => mz_gp_cl hz (mz_cl_t (by decide)) (fun j => mz_gp_cl hv hc h.2.2.2)⟩
  rw [mz_gp hz] at hj ⊢
  by_cases q1 : j = i + 1
  · rw [if_pos q1] at hj
    exact absurd hj (by decide)
  · rw [if_neg q1, mz_gp hv] at hj ⊢
    by_cases q : j = i
    · subst q
      rw [if_pos rfl]
      exact h'.2.2 _ List.mem_cons_self
    · rw [if_neg q] at hj ⊢
      refine h'.2.2 (j, mz_c ad ao ρ (mz_g L j)) (List.mem_cons_of_mem _ (List.mem_filter.mpr ⟨mz_lv_in h hj, ?_⟩))
      have e1 : (j == i) = false := by simpa using q
      have e2 : (j == i + 1) = false := by simpa using q1
      show (!(j == i) && (!(j == i + 1) && !(j + 1 == i && (mz_c ad ao ρ (mz_g L j)).category == 2))) = true
      rw [e1, e2]
      by_cases q2 : j + 1 = i
      · have := mz_c2_cat (ad := ad) (ao := ao) (ρ := ρ) (mz_b4_ok h4 q2)
        simp [this]
      · simp [q2]
theorem mz_lstore_n {j : Fin 4} {w : Nat} (C : mz_Cx X cc own Ts F) (hd : decode cc pc = .ok (.lstore_n j, 1)) (hw : mz_L w = true) (hv : w < mz_B) (h4 : mz_b4 L j.val = true) (hn4 : j.val + 1 < mz_nL X) (k : mz_G X (pc + 1) (mz_p (mz_p L j.val w) (j.val + 1) 0) st M K n top nc ns) : mz_G X pc L (w :: st) M K n top nc ns := by
  obtain ⟨p, l, e, R, s, m, args, below, meth, c, nL, D, cA, ao, ρ, A, n0, ad0, Q⟩ := X
  obtain ⟨hx, hb, -⟩ := C
  intro ad ls H locs hn had hZ hl hst
  rw [List.map_cons, mz_cL hw]
  refine lv_lstore_n hx hb hd rfl (mz_lv_has hl) hn4 rfl fun ls' h' => ?_
  rw [← mz_cL (ad := ad) (ao := ao) hw] at h'
  exact k ad ls' H locs hn had hZ (mz_store2 hl hv (mz_cl_L hw) h4 h') (List.forall_mem_cons.mp hst).2
theorem mz_dstore {i : Nat} (C : mz_Cx X cc own Ts F) (hd : decode cc pc = .ok (.dstore i, 2)) (h4 : mz_b4 L i = true) (hn4 : i + 1 < mz_nL X) (k : mz_G X (pc + 2) (mz_p (mz_p L i 8) (i + 1) 0) st M K n top nc ns) : mz_G X pc L (8 :: st) M K n top nc ns := by
  obtain ⟨p, l, e, R, s, m, args, below, meth, c, nL, D, cA, ao, ρ, A, n0, ad0, Q⟩ := X
  obtain ⟨hx, hb, -⟩ := C
  intro ad ls H locs hn had hZ hl hst
  have hs := List.forall_mem_cons.mp hst
  rw [List.map_cons]
  have e1 : mz_c ad ao ρ 8 = .double 0 := by simp [mz_c]
  rw [e1]
  refine lv_dstore hx hb hd (mz_lv_has hl) hn4 rfl fun ls' h' => ?_
  rw [← e1] at h'
  exact k ad ls' H locs hn had hZ (mz_store2 hl (by decide) hs.1 h4 h') hs.2
theorem mz_iinc {i w : Nat} {z : Int} (C : mz_Cx X cc own Ts F) (hd : decode cc pc = .ok (.iinc i z, 3)) (hw : mz_I (mz_g L i) = true) (hw2 : mz_I w = true) (he : mz_i (mz_rho X) w = mz_i (mz_rho X) (mz_g L i) + Int32.ofInt z) (hv : w < mz_B) (h4 : mz_b4 L i = true) (hn4 : i < mz_nL X)
    (k : mz_G X (pc + 3) (mz_p L i w) st M K n top nc ns) : mz_G X pc L st M K n top nc ns := by
  obtain ⟨p, l, e, R, s, m, args, below, meth, c, nL, D, cA, ao, ρ, A, n0, ad0, Q⟩ := X
  change mz_i ρ w = mz_i ρ (mz_g L i) + Int32.ofInt z at he
  obtain ⟨hx, hb, -⟩ := C
  intro ad ls H locs hn had hZ hl hst
  have h1 := mz_lv_in hl (mz_df_I hw)
  rw [mz_cI hw] at h1
  obtain ⟨q, hq⟩ := List.mem_iff_getElem?.mp h1
  refine lv_iinc hx hb hd (mz_lv_has hl) hq rfl hn4 rfl fun ls' h' => ?_
  rw [← he, ← mz_cI (ad := ad) (ao := ao) hw2] at h'
  exact k ad ls' H locs hn had hZ (mz_store1 hl hv (mz_cl_I hw2) h4 h') hst
/-! numbers -/
theorem mz_bin {f : Int32 → Int32 → Int32} {x y w : Nat} (hx : mz_I x = true) (hy : mz_I y = true) (hw : mz_I w = true)
    (he : mz_i (X.2.2.2.2.2.2.2.2.2.2.2.2.2.2.1) w = f (mz_i (X.2.2.2.2.2.2.2.2.2.2.2.2.2.2.1) x) (mz_i (X.2.2.2.2.2.2.2.2.2.2.2.2.2.2.1) y))
    (row : ∀ (ls : Array Slot) (H : Heap) (locs : List Loc) (a b : Int32) (rest : List Value), (∀ v, v = f a b → W X.1 X.2.1 X.2.2.1 X.2.2.2.1 X.2.2.2.2.1 X.2.2.2.2.2.1 X.2.2.2.2.2.2.1 X.2.2.2.2.2.2.2.1 X.2.2.2.2.2.2.2.2.1 X.2.2.2.2.2.2.2.2.2.1 H locs nc ns X.2.2.2.2.2.2.2.2.2.2.2.2.2.2.2.2.2.2 (F0 X.2.2.2.2.2.1 (pc + 1) ls (.int v :: rest))) → mz_i (X.2.2.2.2.2.2.2.2.2.2.2.2.2.2.1) y = b →
      W X.1 X.2.1 X.2.2.1 X.2.2.2.1 X.2.2.2.2.1 X.2.2.2.2.2.1 X.2.2.2.2.2.2.1 X.2.2.2.2.2.2.2.1 X.2.2.2.2.2.2.2.2.1 X.2.2.2.2.2.2.2.2.2.1 H locs nc ns X.2.2.2.2.2.2.2.2.2.2.2.2.2.2.2.2.2.2 (F0 X.2.2.2.2.2.1 pc ls (.int b :: .int a :: rest)))
    (k : mz_G X (pc + 1) L (w :: st) M K n top nc ns) : mz_G X pc L (y :: x :: st) M K n top nc ns := by
  obtain ⟨p, l, e, R, s, m, args, below, meth, c, nL, D, cA, ao, ρ, A, n0, ad0, Q⟩ := X
  intro ad ls H locs hn had hZ hl hst
  rw [List.map_cons, List.map_cons, mz_cI hx, mz_cI hy]
  refine row ls H locs _ _ _ (fun v hv => ?_) rfl
  have q := k ad ls H locs hn had hZ hl (mz_hd (mz_cl_I hw) (List.forall_mem_cons.mp (List.forall_mem_cons.mp hst).2).2)
  rw [List.map_cons, mz_cI hw, he, ← hv] at q
  exact q
end MZ2
