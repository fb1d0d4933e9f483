/-- a word of the tables, as it holds at the start -/
noncomputable def mz_bf : mz_Xt → Jvm.Cond → Prop
  | (p, l, e, R, s, m, args, below, meth, c, nL, D, cA, ao, ρ, A, n0, ad0, Q), w => w.before args s = true
noncomputable def mz_mn : mz_Xt → String
  | (p, l, e, R, s, m, args, below, meth, c, nL, D, cA, ao, ρ, A, n0, ad0, Q) => meth.name
section MZ5
variable {X : mz_Xt} {cc : ByteArray} {own : String} {Ts : List Jvm.Cond} {F : Nat → Nat × Nat} {pc L M K n top nc ns : Nat} {st : List Nat}
/-- x names the new cell k -/
noncomputable def mz_ref (n x : Nat) : Bool := (mz_ci (mz_R x) ((mz_ci (Nat.beq (mz_q x) 0) (false) ((mz_ci (Nat.ble (mz_q x) n) (Nat.ble (mz_q x) 1048576) (false))))) (false))
theorem mz_ref_ok {x : Nat} (h : mz_ref n x = true) : mz_R x = true ∧ mz_q x ≠ 0 ∧ mz_q x ≤ n ∧ mz_q x ≤ 1048576 := by
  unfold mz_ref at h
  cases h1 : mz_R x with
  | false => rw [h1] at h; cases h
  | true =>
    rw [h1] at h
    cases h2 : Nat.beq (mz_q x) 0 with
    | true => rw [h2] at h; cases h
    | false =>
      rw [h2] at h
      cases h3 : Nat.ble (mz_q x) n with
      | false => rw [h3] at h; cases h
      | true =>
        rw [h3] at h
        exact ⟨rfl, mz_bn h2, mz_bl h3, mz_bl h⟩
noncomputable def mz_k (x : Nat) : Nat := Nat.sub (mz_q x) 1
theorem mz_ref_c {x : Nat} {ad ao : Nat → Nat} {ρ : Nat → Int32} (h : mz_ref n x = true) : mz_c ad ao ρ x = .ref (ad (mz_k x)) ∧ mz_k x < n := by
  obtain ⟨h1, h2, h3, h4⟩ := mz_ref_ok h
  refine ⟨?_, ?_⟩
  · rw [mz_cRq h1, mz_r_new h2 h4]; rfl
  · show mz_q x - 1 < n; omega
theorem mz_E_obj {cA : Nat → ClassId} {ad ao : Nat → Nat} {ρ : Nat → Int32} {k ci : Nat} (ht : mz_ct K k = ci) (hc : ci < 64) : mz_E cA ad ao ρ M K k = .inr (ci, (List.range (mz_cn K k)).map fun j => mz_c ad ao ρ (mz_g M (mz_cb K k + j))) := by
  unfold mz_E mz_e
  rw [ht, if_pos hc]
theorem mz_rm_at {α : Type} {f : Nat → α} {N j : Nat} (h : j < N) : ((List.range N).map f)[j]? = some (f j) := by rw [List.getElem?_map, List.getElem?_range h]; rfl
theorem mz_getf {ci f idx x : Nat} {C0 ref : String} {T : u_T} {N : Nat} (C : mz_Cx X cc own Ts F) (hd : decode cc pc = .ok (.getfield idx, 3)) (hc : vwCl[ci]? = some (C0, T, N)) (hin : ∀ w ∈ u_ws C0 T N, w ∈ Ts) (hf : f < N) (hci : ci < 64)
    (hlink : mz_bf X (Jvm.Cond.fieldLink own idx ref (T f).2.1 (T f).2.2.1)) (hsame : ref = (T f).1 ∨ mz_bf X (Jvm.Cond.sameField ref (T f).1 (T f).2.1 (T f).2.2.1))
    (hx : mz_ref n x = true) (ht : mz_ct K (mz_k x) = ci) (hl : f < mz_cn K (mz_k x)) (k : mz_G X (pc + 3) L (mz_g M (mz_cb K (mz_k x) + f) :: st) M K n top nc ns) : mz_G X pc L (x :: st) M K n top nc ns := by
  obtain ⟨p, l, e, R, s, m, args, below, meth, c, nL, D, cA, ao, ρ, A, n0, ad0, Q⟩ := X
  obtain ⟨hex, hb, hml, hown, hts, hK, hA, hF, hV⟩ := C
  intro ad ls H locs hn had hZ hls hst
  obtain ⟨hP, hD, hS, hW, hC⟩ := hZ
  obtain ⟨e1, hk⟩ := mz_ref_c (ad := ad) (ao := ao) (ρ := ρ) hx
  have q := k ad ls H locs hn had ⟨hP, hD, hS, hW, hC⟩ hls (mz_hd (hC _) (List.forall_mem_cons.mp hst).2)
  rw [List.map_cons, e1]
  have he := mz_w_at (cA := cA) (ad := ad) (ao := ao) (ρ := ρ) (M := M) (K := K) hk
  rw [mz_E_obj ht hci] at he
  refine va_get hex hb hts hin hown hK hP (mz_k x) he hc f hf hlink (fun z hz => ?_) (mz_rm_at hl) hd q
  rcases hsame with h | h
  · rw [h]; exact hz
  · exact u_same h z hz
theorem mz_getfN {ci f idx x : Nat} {C0 host : String} {T : u_T} {N : Nat} (C : mz_Cx X cc own Ts F) (hd : decode cc pc = .ok (.getfield idx, 3)) (hc : vwCl[ci]? = some (C0, T, N)) (hin : ∀ w ∈ u_ws C0 T N, w ∈ Ts) (hf : f < N) (hci : ci < 64)
    (hlink : mz_bf X (Jvm.Cond.fieldLinkNest own idx (T f).1 (T f).2.1 (T f).2.2.1 host))
    (hx : mz_ref n x = true) (ht : mz_ct K (mz_k x) = ci) (hl : f < mz_cn K (mz_k x)) (k : mz_G X (pc + 3) L (mz_g M (mz_cb K (mz_k x) + f) :: st) M K n top nc ns) : mz_G X pc L (x :: st) M K n top nc ns := by
  obtain ⟨p, l, e, R, s, m, args, below, meth, c, nL, D, cA, ao, ρ, A, n0, ad0, Q⟩ := X
  obtain ⟨hex, hb, hml, hown, hts, hK, hA, hF, hV⟩ := C
  intro ad ls H locs hn had hZ hls hst
  obtain ⟨hP, hD, hS, hW, hC⟩ := hZ
  obtain ⟨e1, hk⟩ := mz_ref_c (ad := ad) (ao := ao) (ρ := ρ) hx
  have q := k ad ls H locs hn had ⟨hP, hD, hS, hW, hC⟩ hls (mz_hd (hC _) (List.forall_mem_cons.mp hst).2)
  rw [List.map_cons, e1]
  have he := mz_w_at (cA := cA) (ad := ad) (ao := ao) (ρ := ρ) (M := M) (K := K) hk
  rw [mz_E_obj ht hci] at he
  exact va_getN hex hb hts hin hown hK hP (mz_k x) he hc f hf hlink (fun z hz => hz) (mz_rm_at hl) hd q
/-- what may be put into a field of this type -/
noncomputable def mz_fit (ty : FieldType) (w : Nat) : Bool := match ty with
  | .int => mz_I w
  | .long => mz_L w
  | .boolean => (mz_ci (Nat.beq w 1) (true) (Nat.beq w 17))
  | .char => (mz_ci (mz_t1 w) (Nat.ble (Nat.succ (mz_q w)) 65536) (false))
  | .object _ => mz_R w
  | .array _ => mz_R w
  | _ => false
theorem mz_fit_ok {ty : FieldType} {w : Nat} (h : mz_fit ty w = true) (ad ao : Nat → Nat) (ρ : Nat → Int32) : narrow ty (mz_c ad ao ρ w) = mz_c ad ao ρ w ∧ fits ty (mz_c ad ao ρ w) = true := by
  cases ty with
  | int => rw [mz_cI h]; exact ⟨rfl, rfl⟩
  | long => rw [mz_cL h]; exact ⟨rfl, rfl⟩
  | boolean =>
    have h : ((mz_ci (Nat.beq w 1) (true) (Nat.beq w 17))) = true := h
    cases h1 : Nat.beq w 1 with
    | true =>
      rw [mz_bq h1, show mz_c ad ao ρ 1 = .int 0 by simp [mz_c]; rfl]
      decide
    | false =>
      rw [h1] at h
      have h : Nat.beq w 17 = true := h
      rw [mz_bq h, show mz_c ad ao ρ 17 = .int 1 by simp [mz_c]; rfl]
      decide
  | char =>
    have h : ((mz_ci (mz_t1 w) (Nat.ble (Nat.succ (mz_q w)) 65536) (false))) = true := h
    cases h1 : mz_t1 w with
    | false => rw [h1] at h; cases h
    | true =>
      rw [h1] at h
      obtain ⟨g1, g2⟩ := mz_s1 (ρ := ρ) h1
      rw [mz_cI g1, g2]
      exact pk_charN (mz_bl h)
  | object C =>
    rw [mz_cR h]
    rcases mz_r_or (ad := ad) (ao := ao) (w / 16) with z | ⟨a, z⟩ <;> rw [z] <;> exact ⟨rfl, rfl⟩
  | array t =>
    rw [mz_cR h]
    rcases mz_r_or (ad := ad) (ao := ao) (w / 16) with z | ⟨a, z⟩ <;> rw [z] <;> exact ⟨rfl, rfl⟩
  | byte => cases h
  | short => cases h
  | float => cases h
  | double => cases h
/-- an object's field written: the cell's new contents -/
theorem mz_obj_set {cA : Nat → ClassId} {ad ao : Nat → Nat} {ρ : Nat → Int32} {k ci f v : Nat} (ht : mz_ct K k = ci) (hc : ci < 64) (hv : v < mz_B) :
    (.inr (ci, ((List.range (mz_cn K k)).map fun j => mz_c ad ao ρ (mz_g M (mz_cb K k + j))).set f (mz_c ad ao ρ v)) : va_E) = mz_E cA ad ao ρ (mz_p M (mz_cb K k + f) v) K k := by
  rw [mz_E_obj ht hc]
  congr 2
  refine List.ext_getElem? fun i => ?_
  rw [List.getElem?_set]
  by_cases hi : i < mz_cn K k
  · rw [mz_rm_at hi, mz_rm_at hi]
    by_cases hfi : f = i
    · subst hfi
      rw [if_pos rfl, mz_gp hv, if_pos rfl, if_pos (by simpa using hi)]
    · rw [if_neg hfi, mz_gp hv, if_neg (by omega)]
  · rw [List.getElem?_eq_none (by simp; omega), List.getElem?_eq_none (by simp; omega)]
    by_cases hfi : f = i
    · subst hfi
      rw [if_pos rfl, if_neg (by simpa using hi)]
    · rw [if_neg hfi]
theorem mz_putf {ci f idx x v : Nat} {C0 ref : String} {T : u_T} {N : Nat} {ty0 : Nat → FieldType} (C : mz_Cx X cc own Ts F) (hd : decode cc pc = .ok (.putfield idx, 3)) (hc : vwCl[ci]? = some (C0, T, N)) (hin : ∀ w ∈ u_ws C0 T N, w ∈ Ts) (hf : f < N) (hci : ci < 64)
    (hty : ∀ k, k < N → parseFieldDescriptor (T k).2.2.1 = some (ty0 k)) (hnm : ∀ a, a < N → ∀ b, b < N → a ≠ b → (T a).2.1 ≠ (T b).2.1)
    (hlink : mz_bf X (Jvm.Cond.fieldLink own idx ref (T f).2.1 (T f).2.2.1)) (hsame : ref = (T f).1 ∨ mz_bf X (Jvm.Cond.sameField ref (T f).1 (T f).2.1 (T f).2.2.1))
    (hfin : (T f).2.2.2 = false ∨ ((T f).2.2.2 = true ∧ mz_mn X = "<init>" ∧ (T f).1 = own))
    (hx : mz_ref n x = true) (ht : mz_ct K (mz_k x) = ci) (hl : f < mz_cn K (mz_k x)) (hfit : mz_fit (ty0 f) v = true) (hv : v < mz_B) (k : mz_G X (pc + 3) L st (mz_p M (mz_cb K (mz_k x) + f) v) K n top nc ns) : mz_G X pc L (v :: x :: st) M K n top nc ns := by
  obtain ⟨p, l, e, R, s, m, args, below, meth, c, nL, D, cA, ao, ρ, A, n0, ad0, Q⟩ := X
  obtain ⟨hex, hb, hml, hown, hts, hK, hA, hF, hV⟩ := C
  intro ad ls H locs hn had hZ hls hst
  obtain ⟨hP, hD, hS, hW, hC⟩ := hZ
  obtain ⟨e1, hk⟩ := mz_ref_c (ad := ad) (ao := ao) (ρ := ρ) hx
  obtain ⟨s1, s2⟩ := List.forall_mem_cons.mp hst
  rw [List.map_cons, List.map_cons, e1]
  have he := mz_w_at (cA := cA) (ad := ad) (ao := ao) (ρ := ρ) (M := M) (K := K) hk
  rw [mz_E_obj ht hci] at he
  obtain ⟨g1, g2⟩ := mz_fit_ok hfit ad ao ρ
  have hs : ∀ z, s.fieldFound? (T f).1 (T f).2.1 (T f).2.2.1 = some z → s.fieldFound? ref (T f).2.1 (T f).2.2.1 = some z := fun z hz => by
    rcases hsame with h | h
    · rw [h]; exact hz
    · exact u_same h z hz
  have kk : ∀ (H1 : Heap) (locs1 : List Loc), va_P D vwCl ((mz_w cA ad ao ρ M K n).set (mz_k x) (ad (mz_k x), .inr (ci, ((List.range (mz_cn K (mz_k x))).map fun j => mz_c ad ao ρ (mz_g M (mz_cb K (mz_k x) + j))).set f (mz_c ad ao ρ v)))) H1 →
      va_D A ((mz_w cA ad ao ρ M K n).set (mz_k x) (ad (mz_k x), .inr (ci, ((List.range (mz_cn K (mz_k x))).map fun j => mz_c ad ao ρ (mz_g M (mz_cb K (mz_k x) + j))).set f (mz_c ad ao ρ v)))) → va_S A s.heap H1 locs1 →
      W p l e R s m args below meth c H1 locs1 nc ns Q (F0 m (pc + 3) ls (st.map (mz_c ad ao ρ))) := fun H1 locs1 hP1 hD1 hS1 => by
    have e2 := mz_w_set (cA := cA) (ad := ad) (ao := ao) (ρ := ρ) (M := M) hW hk hl hv (mz_obj_set (cA := cA) (ad := ad) (ao := ao) (ρ := ρ) (M := M) (f := f) ht hci hv)
    rw [e2] at hP1 hD1
    exact k ad ls H1 locs1 hn had ⟨hP1, hD1, hS1, hW, fun i => mz_gp_cl hv s1 hC⟩ hls (List.forall_mem_cons.mp s2).2
  have hlen : f < ((List.range (mz_cn K (mz_k x))).map fun j => mz_c ad ao ρ (mz_g M (mz_cb K (mz_k x) + j))).length := by simpa using hl
  rcases hfin with h | ⟨h, h2, h3⟩
  · exact va_put hex hb hts hin ty0 hty hnm hown hK hP hD hS (mz_k x) he hc f hf hlink hs h (hty f hf) g1 g2 hlen hd kk
  · exact va_putF hex hb hts hin ty0 hty hnm hown hK hP hD hS (mz_k x) he hc f hf hlink hs h h2 h3 (hty f hf) g1 g2 hlen hd kk
end MZ5
