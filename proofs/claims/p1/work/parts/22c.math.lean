/-! Math.max, Math.min, Math.abs -/
section MZM
variable {X : mz_Xt} {cc : ByteArray} {own : String} {F : Nat → Nat × Nat} {pc L M K n top nc ns : Nat} {st : List Nat}
theorem mz_mmaxG {x y w idx : Nat} (C : mz_Cx X cc own mz_gG F) (hd : decode cc pc = .ok (.invokestatic idx, 3)) (hl : Jvm.Cond.methodLink own idx Lib.Math.max.name ∈ mz_gG) (hs : Jvm.Cond.static Lib.Math.max.name ∈ mz_gG) (hi : Jvm.Cond.initialized "java/lang/Math" ∈ mz_gG) (hc : Jvm.Cond.code Lib.Math.max.name Lib.Math.max.code 2 (some .int) ∈ mz_gG)
    (hx : mz_I x = true) (hy : mz_I y = true) (hw : mz_I w = true) (he : mz_i (mz_rho X) w = if mz_i (mz_rho X) x < mz_i (mz_rho X) y then mz_i (mz_rho X) y else mz_i (mz_rho X) x) (h4 : st.length ≤ 4) (hF : 1 ≤ (mz_rm X).frames ∧ 21 ≤ (mz_rm X).locals ∧ nc ≤ (mz_rm X).cells ∧ ns ≤ (mz_rm X).slots)
    (k : mz_G X (pc + 3) L (w :: st) M K n top nc ns) : mz_G X pc L (y :: x :: st) M K n top nc ns := by
  obtain ⟨p, l, e, R, s, m, args, below, meth, c, nL, D, cA, ao, ρ, A, n0, ad0, Q⟩ := X
  obtain ⟨hex, hb, hml, hown, hts, hK, hA, hFF, hV⟩ := C
  change mz_i ρ w = if mz_i ρ x < mz_i ρ y then mz_i ρ y else mz_i ρ x at he
  obtain ⟨r1, r2, r3, r4⟩ := hF
  intro ad ls H locs hn0 had hZ hls hst
  have q := k ad ls H locs hn0 had hZ hls (mz_hd (mz_cl_I hw) (List.forall_mem_cons.mp (List.forall_mem_cons.mp hst).2).2)
  rw [List.map_cons, mz_cI hw, he] at q
  rw [List.map_cons, List.map_cons, mz_cI hx, mz_cI hy]
  have hcat := mz_cats (vs := st.map (mz_c ad ao ρ)) (by simpa using h4)
  change 21 ≤ R.locals at r2
  change 1 ≤ R.frames at r1
  change nc ≤ R.cells at r3
  change ns ≤ R.slots at r4
  exact va_mmax (rest := st.map (mz_c ad ao ρ)) hex hb (hml.trans hls.1.symm) hown (hts _ hl) (hts _ hs) (hts _ hi) (hts _ hc) r1 (by omega) r3 r4 hd q
theorem mz_mminG {x y w idx : Nat} (C : mz_Cx X cc own mz_gG F) (hd : decode cc pc = .ok (.invokestatic idx, 3)) (hl : Jvm.Cond.methodLink own idx Lib.Math.min.name ∈ mz_gG) (hs : Jvm.Cond.static Lib.Math.min.name ∈ mz_gG) (hi : Jvm.Cond.initialized "java/lang/Math" ∈ mz_gG) (hc : Jvm.Cond.code Lib.Math.min.name Lib.Math.min.code 2 (some .int) ∈ mz_gG)
    (hx : mz_I x = true) (hy : mz_I y = true) (hw : mz_I w = true) (he : mz_i (mz_rho X) w = if mz_i (mz_rho X) y < mz_i (mz_rho X) x then mz_i (mz_rho X) y else mz_i (mz_rho X) x) (h4 : st.length ≤ 4) (hF : 1 ≤ (mz_rm X).frames ∧ 21 ≤ (mz_rm X).locals ∧ nc ≤ (mz_rm X).cells ∧ ns ≤ (mz_rm X).slots)
    (k : mz_G X (pc + 3) L (w :: st) M K n top nc ns) : mz_G X pc L (y :: x :: st) M K n top nc ns := by
  obtain ⟨p, l, e, R, s, m, args, below, meth, c, nL, D, cA, ao, ρ, A, n0, ad0, Q⟩ := X
  obtain ⟨hex, hb, hml, hown, hts, hK, hA, hFF, hV⟩ := C
  change mz_i ρ w = if mz_i ρ y < mz_i ρ x then mz_i ρ y else mz_i ρ x at he
  obtain ⟨r1, r2, r3, r4⟩ := hF
  intro ad ls H locs hn0 had hZ hls hst
  have q := k ad ls H locs hn0 had hZ hls (mz_hd (mz_cl_I hw) (List.forall_mem_cons.mp (List.forall_mem_cons.mp hst).2).2)
  rw [List.map_cons, mz_cI hw, he] at q
  rw [List.map_cons, List.map_cons, mz_cI hx, mz_cI hy]
  have hcat := mz_cats (vs := st.map (mz_c ad ao ρ)) (by simpa using h4)
  change 21 ≤ R.locals at r2
  change 1 ≤ R.frames at r1
  change nc ≤ R.cells at r3
  change ns ≤ R.slots at r4
  exact va_mmin (rest := st.map (mz_c ad ao ρ)) hex hb (hml.trans hls.1.symm) hown (hts _ hl) (hts _ hs) (hts _ hi) (hts _ hc) r1 (by omega) r3 r4 hd q
theorem mz_mabsG {x w idx : Nat} (C : mz_Cx X cc own mz_gG F) (hd : decode cc pc = .ok (.invokestatic idx, 3)) (hl : Jvm.Cond.methodLink own idx Lib.Math.abs.name ∈ mz_gG) (hs : Jvm.Cond.static Lib.Math.abs.name ∈ mz_gG) (hi : Jvm.Cond.initialized "java/lang/Math" ∈ mz_gG) (hc : Jvm.Cond.code Lib.Math.abs.name Lib.Math.abs.code 1 (some .int) ∈ mz_gG)
    (hx : mz_I x = true) (hw : mz_I w = true) (he : mz_i (mz_rho X) w = if 0 ≤ mz_i (mz_rho X) x then mz_i (mz_rho X) x else 0 - mz_i (mz_rho X) x) (h4 : st.length ≤ 4) (hF : 1 ≤ (mz_rm X).frames ∧ 21 ≤ (mz_rm X).locals ∧ nc ≤ (mz_rm X).cells ∧ ns ≤ (mz_rm X).slots)
    (k : mz_G X (pc + 3) L (w :: st) M K n top nc ns) : mz_G X pc L (x :: st) M K n top nc ns := by
  obtain ⟨p, l, e, R, s, m, args, below, meth, c, nL, D, cA, ao, ρ, A, n0, ad0, Q⟩ := X
  obtain ⟨hex, hb, hml, hown, hts, hK, hA, hFF, hV⟩ := C
  change mz_i ρ w = if 0 ≤ mz_i ρ x then mz_i ρ x else 0 - mz_i ρ x at he
  obtain ⟨r1, r2, r3, r4⟩ := hF
  intro ad ls H locs hn0 had hZ hls hst
  have q := k ad ls H locs hn0 had hZ hls (mz_hd (mz_cl_I hw) (List.forall_mem_cons.mp hst).2)
  rw [List.map_cons, mz_cI hw, he] at q
  rw [List.map_cons, mz_cI hx]
  have hcat := mz_cats (vs := st.map (mz_c ad ao ρ)) (by simpa using h4)
  change 21 ≤ R.locals at r2
  change 1 ≤ R.frames at r1
  change nc ≤ R.cells at r3
  change ns ≤ R.slots at r4
  exact va_mabs (rest := st.map (mz_c ad ao ρ)) hex hb (hml.trans hls.1.symm) hown (hts _ hl) (hts _ hs) (hts _ hi) (hts _ hc) r1 (by omega) r3 r4 hd q
theorem mz_pick {ρ : Nat → Int32} {x y : Nat} {a b : Int32} {z : Bool} (h : z = true ↔ a < b) : mz_i ρ ((mz_ci (z) (y) (x))) = if a < b then mz_i ρ y else mz_i ρ x := by
  cases z with
  | true => rw [if_pos (h.mp rfl)]; rfl
  | false => rw [if_neg fun q => nomatch h.mpr q]; rfl
theorem mz_pickI {x y : Nat} {z : Bool} (hx : mz_I x = true) (hy : mz_I y = true) : mz_I ((mz_ci (z) (y) (x))) = true := by
  cases z
  · exact hx
  · exact hy
theorem mz_absI {a : Int32} {b : Bool} (h : b = true ↔ a < nI 0) : (if 0 ≤ a then a else 0 - a) = if b = true then -a else a := by
  have e : (0 ≤ a) ↔ ¬ a < nI 0 := by
    rw [show (nI 0 : Int32) = 0 from rfl]
    exact Int32.not_lt.symm
  by_cases q : a < nI 0
  · rw [if_neg (fun z => e.mp z q), if_pos (h.mpr q)]
    exact Int32.zero_sub a
  · rw [if_pos (e.mpr q), if_neg (fun z => q (h.mp z))]
end MZM
