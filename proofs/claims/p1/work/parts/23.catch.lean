/-! WHAT IS CAUGHT: a row of a method's table: from, to, where its handler begins, the place of the class's name, which exception, the local that takes it, that instruction's length -/
abbrev mz_Hr : Type := Nat × Nat × Nat × Nat × Nat × Nat × Nat
noncomputable def mz_find {α : Type} (hs : List mz_Hr) (pc k : Nat) (f : Nat → Nat → Nat → Option α) : Option α :=
  List.rec (motive := fun _ => Option α) none (fun x _ ih => (mz_ci (Nat.ble x.1 pc) ((mz_ci (Nat.ble (Nat.succ pc) x.2.1) ((mz_ci (Nat.beq x.2.2.2.2.1 k) (f x.2.2.1 x.2.2.2.2.2.1 x.2.2.2.2.2.2) (ih))) (ih))) (ih))) hs
noncomputable def mz_cov (x : mz_Hr) (pc : Nat) : Prop := x.1 ≤ pc ∧ pc < x.2.1
theorem mz_find_ok {α : Type} {pc k : Nat} {f : Nat → Nat → Nat → Option α} {r : α} : ∀ {hs : List mz_Hr}, mz_find hs pc k f = some r →
    ∃ (pre : List mz_Hr) (x : mz_Hr) (suf : List mz_Hr), hs = pre ++ x :: suf ∧ f x.2.2.1 x.2.2.2.2.2.1 x.2.2.2.2.2.2 = some r ∧ mz_cov x pc ∧ x.2.2.2.2.1 = k ∧ ∀ z ∈ pre, ¬ mz_cov z pc ∨ z.2.2.2.2.1 ≠ k
  | [], h => nomatch h
  | x :: t, h => by
    have ih : mz_find t pc k f = some r → (¬ mz_cov x pc ∨ x.2.2.2.2.1 ≠ k) → ∃ (pre : List mz_Hr) (y : mz_Hr) (suf : List mz_Hr), x :: t = pre ++ y :: suf ∧ f y.2.2.1 y.2.2.2.2.2.1 y.2.2.2.2.2.2 = some r ∧ mz_cov y pc ∧ y.2.2.2.2.1 = k ∧ ∀ z ∈ pre, ¬ mz_cov z pc ∨ z.2.2.2.2.1 ≠ k := fun q hn => by
      obtain ⟨pre, y, suf, h1, h2, h3, h4, h5⟩ := mz_find_ok q
      exact ⟨x :: pre, y, suf, by rw [h1]; rfl, h2, h3, h4, List.forall_mem_cons.mpr ⟨hn, h5⟩⟩
    rcases mz_if h with ⟨h1, h⟩ | ⟨h1, h⟩
    · rcases mz_if h with ⟨h2, h⟩ | ⟨h2, h⟩
      · rcases mz_if h with ⟨h3, h⟩ | ⟨h3, h⟩
        · exact ⟨[], x, t, rfl, h, ⟨mz_bl h1, mz_bl h2⟩, mz_bq h3, fun z hz => nomatch hz⟩
        · exact ih h (Or.inr (mz_bn h3))
      · exact ih h (Or.inl fun q => absurd (mz_bg h2) (by have := q.2; omega))
    · exact ih h (Or.inl fun q => absurd (mz_bg h1) (by have := q.1; omega))
noncomputable def mz_hrow (own : String) (cc : ByteArray) (x : mz_Hr) : Prop := x.2.2.2.1 ≠ 0 ∧ ∃ nm : String, mz_xs[x.2.2.2.2.1]? = some nm ∧ Jvm.Cond.classLink own x.2.2.2.1 nm ∈ mz_gG ∧ Jvm.Cond.castable nm nm ∈ lw_tbl ∧
  ((x.2.2.2.2.2.2 = 1 ∧ ∃ j : Fin 4, j.val = x.2.2.2.2.2.1 ∧ decode cc x.2.2.1 = .ok (.astore_n j, 1)) ∨ (x.2.2.2.2.2.2 = 2 ∧ decode cc x.2.2.1 = .ok (.astore x.2.2.2.2.2.1, 2)))
noncomputable def mz_hh (hs : List mz_Hr) : List (Nat × Nat × Nat × Nat) := hs.map fun x => (x.1, x.2.1, x.2.2.1, x.2.2.2.1)
theorem mz_xs_inj : ∀ a b : Nat, ∀ E : String, mz_xs[a]? = some E → mz_xs[b]? = some E → a = b := fun a b E h1 h2 => by
  have q : ∀ i : Fin 5, ∀ j : Fin 5, mz_xs[i.val]? = mz_xs[j.val]? → i = j := by decide +kernel
  have ha : a < 5 := (List.getElem?_eq_some_iff.mp h1).1
  have hb : b < 5 := (List.getElem?_eq_some_iff.mp h2).1
  exact congrArg Fin.val (q ⟨a, ha⟩ ⟨b, hb⟩ (h1.trans h2.symm))
section MZT
variable {X : mz_Xt} {cc : ByteArray} {own : String} {F : Nat → Nat × Nat} {pc L M K n top nc ns M0 K0 top0 : Nat} {st : List Nat} {ret : Option FieldType}
theorem mz_store0 {ad ao : Nat → Nat} {ρ : Nat → Int32} {nL i : Nat} {v : Value} {ls ls' : Array Slot} (h : mz_ls ad ao ρ n nL ls L) (h4 : mz_b4 L i = true)
    (h' : lv_has ls' nL ((i, v) :: (mz_lv ad ao ρ L nL).filter (fun q => !(q.1 == i) && !(q.1 + 1 == i && q.2.category == 2)))) : mz_ls ad ao ρ n nL ls' (mz_p L i 0) := by
  refine ⟨h'.1, h'.2.1, fun j hj => ?_, fun j => mz_gp_cl (by decide) (mz_cl_t (by decide)) h.2.2.2⟩
  rw [mz_gp (by decide)] at hj ⊢
  by_cases q : j = i
  · subst q
    rw [if_pos rfl] at hj
    cases hj
  · rw [if_neg q] at hj ⊢
    refine h'.2.2 (j, mz_c ad ao ρ (mz_g L j)) (List.mem_cons_of_mem _ (List.mem_filter.mpr ⟨mz_lv_in h hj, ?_⟩))
    have e1 : (j == i) = false := by simpa using q
    show (!(j == i) && !(j + 1 == i && (mz_c ad ao ρ (mz_g L j)).category == 2)) = true
    rw [e1]
    by_cases q2 : j + 1 = i
    · have := mz_c2_cat (ad := ad) (ao := ao) (ρ := ρ) (mz_b4_ok h4 q2)
      simp [this]
    · simp [q2]
theorem mz_catch {α : Type} {hs : List mz_Hr} {k : Nat} {r : mz_Rt} {f : Nat → Nat → Nat → Option α} {u : α} (C : mz_Cx X cc own mz_gG F) (O : mz_OX X) (E : mz_MX X ret true (mz_hh hs) M0 K0 top0 r) (hrow : ∀ x ∈ hs, mz_hrow own cc x) (hf : mz_find hs pc k f = some u)
    (hk : ∀ h j ln, f h j ln = some u → mz_b4 L j = true ∧ j < mz_nL X ∧ mz_G X (h + ln) (mz_p L j 0) [] M K n top nc ns) : mz_GX X pc L st M K n top nc ns k := by
  obtain ⟨pre, x, suf, hsp, hfx, hcov, hkx, hpre⟩ := mz_find_ok hf
  have hxm : x ∈ hs := by rw [hsp]; simp
  obtain ⟨g0, nm, g1, g2, g3, g4⟩ := hrow x hxm
  obtain ⟨p, l, e, R, s, m, args, below, meth, c, nL, D, cA, ao, ρ, A, n0, ad0, Q⟩ := X
  obtain ⟨hex, hb, hml, hown, hts, hK, hA, hFF, hV⟩ := C
  obtain ⟨-, -, -, -, e4, -, -⟩ := E
  intro ad ls H locs hn0 had hZ hls hst q ce En hE hq hcv hcl
  rw [hkx] at g1
  cases g1.symm.trans hE
  obtain ⟨b4, jn, kk⟩ := hk _ _ _ hfx
  change x.2.2.2.2.2.1 < nL at jn
  refine vx_catch (own := own) (name := nm) (E := nm) hown (tableOf (mz_hh pre)) ⟨x.1, x.2.1, x.2.2.1, x.2.2.2.1⟩ (tableOf (mz_hh suf)) (by rw [e4 rfl, hsp]; simp [tableOf, mz_hh]) (fun z hz => ?_) ?_ g0 (hts _ g2) (va_Nw.use rfl (O.2.2.2.2.2.1 _ g3 rfl)) hq hcv hcl ?_
  · obtain ⟨y, hy, rfl⟩ := List.mem_map.mp hz
    obtain ⟨z9, hz9, rfl⟩ := List.mem_map.mp hy
    obtain ⟨f0, nm2, f1, f2, f3, -⟩ := hrow z9 (by rw [hsp]; simp [hz9])
    rcases hpre z9 hz9 with w | w
    · refine Or.inl ?_
      show (decide (z9.1 ≤ pc) && decide (pc < z9.2.1)) = false
      cases h : (decide (z9.1 ≤ pc) && decide (pc < z9.2.1)) with
      | false => rfl
      | true =>
        simp only [Bool.and_eq_true, decide_eq_true_eq] at h
        exact absurd h w
    · refine Or.inr ⟨f0, nm2, hts _ f2, O.2.2.2.2.2.2.2.2.2 _ (List.mem_of_getElem? g1) _ (List.mem_of_getElem? f1) fun h => w ?_⟩
      rw [← h] at f1
      exact mz_xs_inj _ _ _ f1 g1
  · show (decide (x.1 ≤ pc) && decide (pc < x.2.1)) = true
    simp only [Bool.and_eq_true, decide_eq_true_eq]
    exact hcov
  · rcases g4 with ⟨l1, j, hj, d1⟩ | ⟨l2, d1⟩
    · refine lv_astore_n hex hb d1 hj (mz_lv_has hls) jn rfl fun ls' h' => ?_
      rw [l1] at kk
      exact kk ad ls' H locs hn0 had hZ (mz_store0 hls b4 h') (fun v hv => nomatch hv)
    · refine lv_astore hex hb d1 (mz_lv_has hls) jn rfl fun ls' h' => ?_
      rw [l2] at kk
      exact kk ad ls' H locs hn0 had hZ (mz_store0 hls b4 h') (fun v hv => nomatch hv)
end MZT
