/-! THE STEPS: an instruction is a number: 8 bits its kind, 16 bits x, 20 bits y, 28 bits z (or, of constants, 32 bits behind x) -/
abbrev mz_Ca : Type := Nat → List Nat → Nat → Nat → Nat → Nat → Option mz_Rt
abbrev mz_Go : Type := Nat → Nat → List Nat → Nat → Nat → Nat → Nat → Nat → Nat → Option mz_Rt
abbrev mz_Se : Type := (Nat → Nat × Nat) → Nat → Nat → List mz_Hr → mz_Ca → mz_Go → Nat → Nat → Nat → List Nat → Nat → Nat → Nat → Nat → Nat → Nat → Option mz_Rt
abbrev mz_Ck : Type := String → String → ByteArray → Nat → Option FieldType → Nat → Nat → Bool
noncomputable def mz_ex (e : Nat) : Nat := Nat.mod (Nat.shiftRight e 8) 65536
noncomputable def mz_ey (e : Nat) : Nat := Nat.mod (Nat.shiftRight e 24) 1048576
noncomputable def mz_ez (e : Nat) : Nat := Nat.shiftRight e 44
noncomputable def mz_ea (e : Nat) : Nat := Nat.mod (Nat.shiftRight e 24) 4294967296
noncomputable def mz_j (e : Nat) : Fin 4 := ⟨Nat.mod (mz_ex e) 4, Nat.mod_lt _ (by decide)⟩
noncomputable def mz_z (a : Nat) : Int := if a < 2147483648 then (a : Int) else (a : Int) - 4294967296
noncomputable def mz_wf (w : Nat) : Bool := Nat.ble (Nat.succ w) 281474976710656
theorem mz_wf_ok {w : Nat} (h : mz_wf w = true) : w < mz_B := mz_bl h
noncomputable def mz_p1 {α : Type} (st : List Nat) (k : Nat → List Nat → Option α) : Option α := List.rec (motive := fun _ => Option α) none (fun w l _ => k w l) st
theorem mz_p1_ok {α : Type} {st : List Nat} {k : Nat → List Nat → Option α} {r : α} (h : mz_p1 st k = some r) : ∃ w l, st = w :: l ∧ k w l = some r := by
  cases st with
  | nil => cases h
  | cons w l => exact ⟨w, l, rfl, h⟩
/-- so many words off the stack, the deepest first -/
noncomputable def mz_tk {α : Type} (na : Nat) (k : List Nat → List Nat → Option α) : List Nat → List Nat → Option α :=
  Nat.rec (motive := fun _ => List Nat → List Nat → Option α) (fun st acc => k acc st) (fun _ ih st acc => mz_p1 st fun w l => ih l (w :: acc)) na
theorem mz_tk_ok {α : Type} {k : List Nat → List Nat → Option α} {r : α} : ∀ (na : Nat) (st acc : List Nat), mz_tk na k st acc = some r → ∃ as rest, as.length = na ∧ st = as.reverse ++ rest ∧ k (as ++ acc) rest = some r
  | 0, st, acc, h => ⟨[], st, rfl, rfl, h⟩
  | na + 1, st, acc, h => by
    obtain ⟨w, l, rfl, h⟩ := mz_p1_ok (show mz_p1 st (fun w l => mz_tk na k l (w :: acc)) = some r from h)
    obtain ⟨as, rest, h1, rfl, h3⟩ := mz_tk_ok na l (w :: acc) h
    exact ⟨as ++ [w], rest, by simp [h1], by simp, by simpa using h3⟩
noncomputable def mz_len (st : List Nat) : Nat := List.rec (motive := fun _ => Nat) 0 (fun _ _ ih => Nat.succ ih) st
noncomputable def mz_l4 (st : List Nat) : Bool := Nat.ble (mz_len st) 4
theorem mz_len_eq : ∀ st : List Nat, mz_len st = st.length
  | [] => rfl
  | _ :: l => congrArg Nat.succ (mz_len_eq l)
theorem mz_l4_ok {st : List Nat} (h : mz_l4 st = true) : st.length ≤ 4 := by
  have := mz_bl (show Nat.ble (mz_len st) 4 = true from h)
  rwa [mz_len_eq] at this
/-- a walk from here comes to its end, with the room that the end's account says -/
noncomputable def mz_Ok (X : mz_Xt) (r : mz_Rt) (pc L : Nat) (st : List Nat) (M K n top nc ns : Nat) : Prop := nc ≤ r.2.2.2.2.2.2.1 ∧ ns ≤ r.2.2.2.2.2.2.2 ∧ mz_G X pc L st M K n top nc ns
/-- the law's own context: its script, its end -/
noncomputable def mz_LX : mz_Xt → ByteArray → mz_Rt → Nat → Prop
  | (p, l, e, R, s, m, args, below, meth, c, nL, D, cA, ao, ρ, A, n0, ad0, Q), cc, r, Ls => (va_X (ao 99) Ls ρ s s.heap ∧ ao 99 < s.heap.size ∧ ¬ A (ao 99)) ∧
    ∀ pc L M K n top nc ns w, decode cc pc = .ok (.ireturn, 1) → r = (0, some w, M, K, n, top, nc, ns) → mz_I w = true → mz_G (p, l, e, R, s, m, args, below, meth, c, nL, D, cA, ao, ρ, A, n0, ad0, Q) pc L [w] M K n top nc ns
/-- contexts: 0 a method without a table, 1 one with a table, 2 the law on a script of Ls ints (said as mo = 2 + Ls) -/
noncomputable def mz_CX (X : mz_Xt) (cc : ByteArray) (own : String) (mo : Nat) (hs : List mz_Hr) (ret : Option FieldType) (r : mz_Rt) : Prop :=
  (mo = 0 → ∃ M0 K0 top0, mz_MX X ret false (mz_hh hs) M0 K0 top0 r) ∧ (mo = 1 → (∃ M0 K0 top0, mz_MX X ret true (mz_hh hs) M0 K0 top0 r) ∧ ∀ x ∈ hs, mz_hrow own cc x) ∧ (∀ Ls, mo = 2 + Ls → mz_LX X cc r Ls)
/-- the methods, by their numbers; how many words a call takes; how it is called -/
abbrev mz_Mk : Type := Nat → mz_Mt × Nat × Nat
noncomputable def mz_cal (t : mz_Mt) (na kd : Nat) : Prop := mz_cw t ∈ mz_gG ∧ Jvm.Cond.initialized t.1.cls ∈ mz_gG ∧ mz_nh t.1 ∧ mz_na t.1 na ∧ t.2.2.1 ≤ 40 ∧ (kd = 0 → Jvm.Cond.static t.1 ∈ mz_gG) ∧
  (kd = 1 → t.2.2.2.2.1 = false ∧ Jvm.Cond.instanceMethod t.1 ∈ mz_gG ∧ Jvm.Cond.selects t.1.cls t.1 t.1 ∈ mz_gG) ∧ (kd = 2 → t.2.2.2.2.1 = false ∧ Jvm.Cond.instanceMethod t.1 ∈ mz_gG ∧ t.1.name = "<init>" ∧ t.2.2.2.1 = none) ∧
  (kd = 3 → t.2.2.2.2.1 = false ∧ Jvm.Cond.instanceMethod t.1 ∈ mz_gG ∧ t.1 = ⟨mz_itr, "hasNext", "()Z"⟩ ∧ Jvm.Cond.selects mz_itr mz_hasN t.1 ∈ mz_gG ∧ mz_na mz_hasN na) ∧
  (kd = 4 → t.2.2.2.2.1 = false ∧ Jvm.Cond.instanceMethod t.1 ∈ mz_gG ∧ t.1 = ⟨mz_itr, "next", "()Ljava/lang/Object;"⟩ ∧ Jvm.Cond.selects mz_itr mz_nextN t.1 ∈ mz_gG ∧ mz_na mz_nextN na)
noncomputable def mz_HC (X : mz_Xt) (mk : mz_Mk) (d : Nat) (call : mz_Ca) : Prop := ∀ mi ws M K n top r1, call mi ws M K n top = some r1 → mz_Sp (mz_lz X) (mz_rho X) (mk mi).1 d ws M K n top r1 ∧ mz_cal (mk mi).1 (mk mi).2.1 (mk mi).2.2
noncomputable def mz_HG (X : mz_Xt) (r : mz_Rt) (go : mz_Go) : Prop := ∀ pc L st M K n top nc ns, go pc L st M K n top nc ns = some r → mz_Ok X r pc L st M K n top nc ns
abbrev mz_Cy (X : mz_Xt) (mk : mz_Mk) (cc : ByteArray) (own : String) (F : Nat → Nat × Nat) (nL mo d : Nat) (hs : List mz_Hr) (ret : Option FieldType) (r : mz_Rt) (call : mz_Ca) (go : mz_Go) : Prop :=
  mz_Cx X cc own mz_gG F ∧ mz_OX X ∧ mz_nL X = nL ∧ (r.2.2.2.2.2.2.1 ≤ (mz_rm X).cells ∧ r.2.2.2.2.2.2.2 ≤ (mz_rm X).slots) ∧ (d + 9 ≤ (mz_rm X).frames ∧ 60 * d + 260 ≤ (mz_rm X).locals) ∧ mz_CX X cc own mo hs ret r ∧ mz_HC X mk d call ∧ mz_HG X r go
/-- a step and what is asked of the tables for it -/
noncomputable def mz_Lk (mk : mz_Mk) (f : mz_Se) (k : mz_Ck) : Prop := ∀ (X : mz_Xt) (own : String) (cc : ByteArray) (F : Nat → Nat × Nat) (nL mo d : Nat) (hs : List mz_Hr) (ret : Option FieldType) (r : mz_Rt) (call : mz_Ca) (go : mz_Go) (e pc L : Nat) (st : List Nat) (M K n top nc ns : Nat),
  mz_Cy X mk cc own F nL mo d hs ret r call go → k own (mz_mn X) cc mo ret e pc = true → f F nL mo hs call go e pc L st M K n top nc ns = some r → mz_Ok X r pc L st M K n top nc ns
/-- a tree of choices by number -/
noncomputable def mz_nd {α : Type} (k : Nat) (a b : Nat → α) : Nat → α := fun op => (mz_ci (Nat.ble op k) (a op) (b op))
noncomputable def mz_lf {α : Type} (a : α) : Nat → α := fun _ => a
theorem mz_nd_ok {α β : Type} {P : α → β → Prop} {k : Nat} {a b : Nat → α} {a' b' : Nat → β} (h1 : ∀ op, P (a op) (a' op)) (h2 : ∀ op, P (b op) (b' op)) : ∀ op, P (mz_nd k a b op) (mz_nd k a' b' op) := fun op => by
  unfold mz_nd
  cases Nat.ble op k
  · exact h2 op
  · exact h1 op
theorem mz_lf_ok {α β : Type} {P : α → β → Prop} {a : α} {a' : β} (h : P a a') : ∀ op : Nat, P (mz_lf a op) (mz_lf a' op) := fun _ => h
theorem mz_bfg {X : mz_Xt} {cc : ByteArray} {own : String} {F : Nat → Nat × Nat} (C : mz_Cx X cc own mz_gG F) {w : Jvm.Cond} (h : w ∈ mz_gG) : mz_bf X w := by
  obtain ⟨p, l, e, R, s, m, args, below, meth, c, nL, D, cA, ao, ρ, A, n0, ad0, Q⟩ := X
  exact C.2.2.2.2.1 w h
theorem mz_bfn {X : mz_Xt} (O : mz_OX X) {w : Jvm.Cond} (h : w ∈ lw_tbl) (h2 : mz_nk w = true) : mz_bf X w := by
  obtain ⟨p, l, e, R, s, m, args, below, meth, c, nL, D, cA, ao, ρ, A, n0, ad0, Q⟩ := X
  refine va_Nw.use ?_ (O.2.2.2.2.2.1 w h h2)
  cases w <;> first | rfl | cases h2
theorem mz_bfa {X : mz_Xt} (O : mz_OX X) {C0 : String} (h : Jvm.Cond.arrayOver (.object C0) ∈ lw_tbl) : mz_bf X (Jvm.Cond.arrayOver (.object C0)) := by
  obtain ⟨p, l, e, R, s, m, args, below, meth, c, nL, D, cA, ao, ρ, A, n0, ad0, Q⟩ := X
  exact (O.2.2.2.2.2.2.1 C0 h).use
/-- the word at that place of the tables, a good one -/
abbrev mz_wi (i : Nat) (w : Jvm.Cond) : Prop := lw_tbl[i]? = some w ∧ goodWord w = true
theorem mz_wi_ok {i : Nat} {w : Jvm.Cond} (h : mz_wi i w) : w ∈ mz_gG := List.mem_filter.mpr ⟨List.mem_of_getElem? h.1, h.2⟩
theorem mz_bft {a b : Bool} (h : ((mz_ci (a) (b) (false))) = true) : a = true ∧ b = true := by
  cases a
  · cases h
  · exact ⟨rfl, h⟩
theorem mz_elim {α : Type} {o : Option α} {f : α → Bool} (h : o.elim false f = true) : ∃ q, o = some q ∧ f q = true := by
  cases o with
  | none => cases h
  | some q => exact ⟨q, rfl, h⟩
noncomputable def mz_bd {α β : Type} (o : Option α) (f : α → Option β) : Option β := Option.rec (motive := fun _ => Option β) none f o
theorem mz_bd_ok {α β : Type} {o : Option α} {f : α → Option β} {r : β} (h : mz_bd o f = some r) : ∃ x, o = some x ∧ f x = some r := by
  cases o with
  | none => cases h
  | some x => exact ⟨x, rfl, h⟩
theorem mz_iff {α : Type} {c : Bool} {a : Option α} {r : α} (h : ((mz_ci (c) (none) (a))) = some r) : c = false ∧ a = some r := by
  cases c
  · exact ⟨rfl, h⟩
  · cases h
theorem mz_off (a b : Nat) : (b : Int) + (Int.ofNat a - Int.ofNat b) = (a : Int) := by
  show (b : Int) + ((a : Int) - (b : Int)) = (a : Int)
  omega
theorem mz_CF {X : mz_Xt} {cc : ByteArray} {own : String} {Ts : List Jvm.Cond} {F : Nat → Nat × Nat} (C : mz_Cx X cc own Ts F) : mz_F F (mz_rho X) := by
  obtain ⟨p, l, e, R, s, m, args, below, meth, c, nL, D, cA, ao, ρ, A, n0, ad0, Q⟩ := X
  exact C.2.2.2.2.2.2.2.1
theorem mz_CV {X : mz_Xt} {cc : ByteArray} {own : String} {Ts : List Jvm.Cond} {F : Nat → Nat × Nat} (C : mz_Cx X cc own Ts F) : mz_V (mz_rho X) := by
  obtain ⟨p, l, e, R, s, m, args, below, meth, c, nL, D, cA, ao, ρ, A, n0, ad0, Q⟩ := X
  exact C.2.2.2.2.2.2.2.2
theorem mz_31 (ρ : Nat → Int32) {y : Nat} (h : mz_sm y = true) (h2 : mz_q y < 32) : mz_i ρ y &&& 31 = mz_i ρ y := by
  rw [(mz_s1 (ρ := ρ) (mz_sm_ok h).1).2]
  exact mz_and31 ⟨mz_q y, h2⟩
theorem mz_ifB {c a b : Bool} (h : ((mz_ci (c) (a) (b))) = true) : (c = true ∧ a = true) ∨ (c = false ∧ b = true) := by
  cases c
  · exact Or.inr ⟨rfl, h⟩
  · exact Or.inl ⟨rfl, h⟩
/-- what a field of that kind takes -/
noncomputable def mz_fk (kind v : Nat) : Bool := (mz_ci (Nat.beq kind 0) (mz_I v) ((mz_ci (Nat.beq kind 1) (mz_L v) ((mz_ci (Nat.beq kind 2) (mz_fit .boolean v) ((mz_ci (Nat.beq kind 3) (mz_fit .char v) (mz_R v))))))))
noncomputable def mz_fkt (kind : Nat) (ty : FieldType) : Bool := match ty with
  | .int => Nat.beq kind 0
  | .long => Nat.beq kind 1
  | .boolean => Nat.beq kind 2
  | .char => Nat.beq kind 3
  | .object _ => Nat.ble 4 kind
  | .array _ => Nat.ble 4 kind
  | _ => false
theorem mz_fk_ok {kind v : Nat} {ty : FieldType} (h : mz_fkt kind ty = true) (h2 : mz_fk kind v = true) : mz_fit ty v = true := by
  have g : ∀ k, kind = k + 4 → mz_fk kind v = mz_R v := fun k hk => by subst hk; rfl
  cases ty with
  | int => rw [mz_bq h] at h2; exact h2
  | long => rw [mz_bq h] at h2; exact h2
  | boolean => rw [mz_bq h] at h2; exact h2
  | char => rw [mz_bq h] at h2; exact h2
  | object n =>
    have h1 := mz_bl h
    rw [g (kind - 4) (by omega)] at h2
    exact h2
  | array t =>
    have h1 := mz_bl h
    rw [g (kind - 4) (by omega)] at h2
    exact h2
  | _ => cases h
/-- the number of the text, of a reference to it; of one to its bytes -/
noncomputable def mz_sj {α : Type} (x : Nat) (k : Nat → Option α) : Option α := mz_f (Nat.div (Nat.sub (Nat.sub (mz_q x) 1048577) 1) 2) fun j => (mz_ci (Nat.beq x (mz_ow (Nat.add 1 (Nat.mul 2 j)))) ((mz_ci (Nat.ble (Nat.succ j) 4) (k j) (none))) (none))
noncomputable def mz_bj {α : Type} (x : Nat) (k : Nat → Option α) : Option α := mz_f (Nat.div (Nat.sub (Nat.sub (mz_q x) 1048577) 2) 2) fun j => (mz_ci (Nat.beq x (mz_ow (Nat.add 2 (Nat.mul 2 j)))) ((mz_ci (Nat.ble (Nat.succ j) 4) (k j) (none))) (none))
theorem mz_str_at {j : Nat} (h : j < 4) : ∃ q, mz_strs[j]? = some q := ⟨_, List.getElem?_eq_getElem (show j < mz_strs.length from h)⟩
theorem mz_sj_ok {α : Type} {x : Nat} {k : Nat → Option α} {r : α} (h : mz_sj x k = some r) : ∃ j q, x = mz_ow (1 + 2 * j) ∧ mz_strs[j]? = some q ∧ k j = some r := by
  unfold mz_sj at h
  rw [mz_f_eq] at h
  obtain ⟨h1, h⟩ := mz_ift h
  obtain ⟨h2, h⟩ := mz_ift h
  obtain ⟨q, hq⟩ := mz_str_at (mz_bl h2)
  exact ⟨_, q, mz_bq h1, hq, h⟩
theorem mz_bj_ok {α : Type} {x : Nat} {k : Nat → Option α} {r : α} (h : mz_bj x k = some r) : ∃ j q, x = mz_ow (2 + 2 * j) ∧ mz_strs[j]? = some q ∧ k j = some r := by
  unfold mz_bj at h
  rw [mz_f_eq] at h
  obtain ⟨h1, h⟩ := mz_ift h
  obtain ⟨h2, h⟩ := mz_ift h
  obtain ⟨q, hq⟩ := mz_str_at (mz_bl h2)
  exact ⟨_, q, mz_bq h1, hq, h⟩
noncomputable def mz_sbs : List (List Nat) := [[114, 104, 115, 102, 119], [114, 104, 115, 102, 119], [105, 115, 114, 116], [104, 115, 102]]
theorem mz_sbs_ok {j : Nat} {q : String × Nat × String × List Int32} (h : mz_strs[j]? = some q) : q.2.2.2.length = (mz_sbs.getD j []).length ∧ ∀ i, q.2.2.2.getD i 0 = nI ((mz_sbs.getD j []).getD i 0) := by
  have e : ∀ i : Fin 4, ∀ z, mz_strs[i.val]? = some z → z.2.2.2 = (mz_sbs.getD i.val []).map nI := fun i => by
    match i with
    | ⟨0, _⟩ => intro z hz; cases hz; rfl
    | ⟨1, _⟩ => intro z hz; cases hz; rfl
    | ⟨2, _⟩ => intro z hz; cases hz; rfl
    | ⟨3, _⟩ => intro z hz; cases hz; rfl
    | ⟨k + 4, hk⟩ => exact absurd hk (by omega)
  have hj : j < 4 := (List.getElem?_eq_some_iff.mp h).1
  rw [e ⟨j, hj⟩ q h]
  refine ⟨by simp, fun i => ?_⟩
  show ((mz_sbs.getD j []).map nI).getD i 0 = nI ((mz_sbs.getD j []).getD i 0)
  generalize mz_sbs.getD j [] = l
  rw [List.getD_eq_getElem?_getD, List.getD_eq_getElem?_getD, List.getElem?_map]
  cases l[i]? <;> rfl
noncomputable def mz_rp (N w : Nat) : List Nat := Nat.rec (motive := fun _ => List Nat) [] (fun _ ih => w :: ih) N
theorem mz_rp_eq : ∀ N w : Nat, mz_rp N w = List.replicate N w
  | 0, _ => rfl
  | N + 1, w => congrArg (List.cons w) (mz_rp_eq N w)
noncomputable def mz_tn (t : Nat) : String := (mz_ci (Nat.beq t 5) ("Hundredward$Plot") ((mz_ci (Nat.beq t 6) ("Hundredward$Household") ((mz_ci (Nat.beq t 7) ("Hundredward$Firm") ("java/lang/Object"))))))
theorem mz_tn_ok {t : Nat} (h1 : 5 ≤ t) (h2 : t < 9) : mz_ty.getD t .int = .object (mz_tn t) := by
  obtain h | h | h | h : t = 5 ∨ t = 6 ∨ t = 7 ∨ t = 8 := by omega
  all_goals subst h; rfl
noncomputable def mz_pk (ts : List Nat) (d : Nat) : Nat → Nat := List.rec (motive := fun _ => Nat → Nat) (fun _ => d) (fun t _ ih i => Nat.rec (motive := fun _ => Nat) t (fun i' _ => ih i') i) ts
theorem mz_pk_in : ∀ (ts : List Nat) (d i : Nat), i < ts.length → ts[i]? = some (mz_pk ts d i)
  | [], d, i, h => absurd h (Nat.not_lt_zero _)
  | t :: l, d, 0, h => rfl
  | t :: l, d, i + 1, h => by
    rw [List.getElem?_cons_succ]
    exact mz_pk_in l d i (by simpa using h)
theorem mz_pk_out : ∀ (ts : List Nat) (d i : Nat), ts.length ≤ i → mz_pk ts d i = d
  | [], d, i, h => rfl
  | t :: l, d, 0, h => absurd h (by simp)
  | t :: l, d, i + 1, h => mz_pk_out l d i (by simpa using h)
/-- behind a call -/
noncomputable def mz_aft (hs : List mz_Hr) (mo nL : Nat) (go : mz_Go) (ln pc L : Nat) (rest : List Nat) (nc ns : Nat) (r1 : mz_Rt) : Option mz_Rt :=
  mz_f r1.2.2.1 fun M => mz_f r1.2.2.2.1 fun K => mz_f r1.2.2.2.2.1 fun n => mz_f r1.2.2.2.2.2.1 fun top => mz_f (Nat.add nc r1.2.2.2.2.2.2.1) fun nc => mz_f (Nat.add ns r1.2.2.2.2.2.2.2) fun ns =>
    Nat.rec (motive := fun _ => Option mz_Rt) (Option.rec (motive := fun _ => Option mz_Rt) (go (Nat.add pc ln) L rest M K n top nc ns) (fun w => go (Nat.add pc ln) L (w :: rest) M K n top nc ns) r1.2.1)
      (fun k _ => (mz_ci (Nat.beq mo 0) (mz_f (Nat.succ k) fun k1 => some (k1, none, M, K, n, top, nc, ns)) ((mz_ci (Nat.beq mo 1) (mz_find hs pc k fun h j l => (mz_ci (mz_b4 L j) ((mz_ci (Nat.ble (Nat.succ j) nL) (mz_f (mz_p L j 0) fun L2 => go (Nat.add h l) L2 [] M K n top nc ns) (none))) (none))) (none))))) r1.1
theorem mz_aft_ok {X : mz_Xt} {mk : mz_Mk} {cc : ByteArray} {own : String} {F : Nat → Nat × Nat} {nL mo d : Nat} {hs : List mz_Hr} {ret : Option FieldType} {r : mz_Rt} {call : mz_Ca} {go : mz_Go} (hy : mz_Cy X mk cc own F nL mo d hs ret r call go) {ln pc L nc ns rx : Nat} {rest : List Nat} {rv : Option Nat} {M K n top c1 s1 : Nat}
    (h : mz_aft hs mo nL go ln pc L rest nc ns (rx, rv, M, K, n, top, c1, s1) = some r) : (nc + c1 ≤ r.2.2.2.2.2.2.1 ∧ ns + s1 ≤ r.2.2.2.2.2.2.2) ∧ (rx = 0 → mz_G X (pc + ln) L (rv.toList ++ rest) M K n top (nc + c1) (ns + s1)) ∧ ∀ k, rx = k + 1 → mz_GX X pc L rest M K n top (nc + c1) (ns + s1) k := by
  obtain ⟨C, O, hnL, hR, hD, hE, hC, hG⟩ := hy
  unfold mz_aft at h
  rw [mz_f_eq, mz_f_eq, mz_f_eq, mz_f_eq, mz_f_eq, mz_f_eq] at h
  cases rx with
  | zero =>
    cases rv with
    | none =>
      obtain ⟨g1, g2, g3⟩ := hG _ _ _ _ _ _ _ _ _ (show go (Nat.add pc ln) L rest M K n top (Nat.add nc c1) (Nat.add ns s1) = some r from h)
      exact ⟨⟨g1, g2⟩, fun _ => g3, fun k hk => nomatch hk⟩
    | some w =>
      obtain ⟨g1, g2, g3⟩ := hG _ _ _ _ _ _ _ _ _ (show go (Nat.add pc ln) L (w :: rest) M K n top (Nat.add nc c1) (Nat.add ns s1) = some r from h)
      exact ⟨⟨g1, g2⟩, fun _ => g3, fun k hk => nomatch hk⟩
  | succ k =>
    rcases mz_if h with ⟨h0, h⟩ | ⟨-, h⟩
    · rw [mz_f_eq] at h
      cases h
      obtain ⟨M0, K0, top0, E⟩ := hE.1 (mz_bq h0)
      refine ⟨⟨Nat.le_refl _, Nat.le_refl _⟩, (fun h => nomatch h), fun k2 hk => ?_⟩
      cases hk
      obtain ⟨p, l, e, R, s, m, args, below, meth, c, nL, D, cA, ao, ρ, A, n0, ad0, Q⟩ := X
      exact mz_out C E
    · obtain ⟨h1, h⟩ := mz_ift h
      obtain ⟨⟨M0, K0, top0, E⟩, hrow⟩ := hE.2.1 (mz_bq h1)
      have key : ∀ hp j l, ((mz_ci (mz_b4 L j) ((mz_ci (Nat.ble (Nat.succ j) nL) (mz_f (mz_p L j 0) fun L2 => go (Nat.add hp l) L2 [] M K n top (Nat.add nc c1) (Nat.add ns s1)) (none))) (none))) = some r → mz_b4 L j = true ∧ j < mz_nL X ∧ mz_Ok X r (hp + l) (mz_p L j 0) [] M K n top (nc + c1) (ns + s1) := fun hp j l z => by
        obtain ⟨z1, z⟩ := mz_ift z
        obtain ⟨z2, z⟩ := mz_ift z
        rw [mz_f_eq] at z
        exact ⟨z1, by rw [hnL]; exact mz_bl z2, hG _ _ _ _ _ _ _ _ _ z⟩
      obtain ⟨pre, x, suf, -, hx, -⟩ := mz_find_ok h
      obtain ⟨-, -, g1, g2, -⟩ := key _ _ _ hx
      refine ⟨⟨g1, g2⟩, (fun h => nomatch h), fun k2 hk => ?_⟩
      cases hk
      exact mz_catch C O E hrow h fun hp j l z => ⟨(key hp j l z).1, (key hp j l z).2.1, (key hp j l z).2.2.2.2⟩
/-- the law's script -/
theorem mz_slenG {X : mz_Xt} {cc : ByteArray} {own : String} {Ts : List Jvm.Cond} {F : Nat → Nat × Nat} {pc L M K n top nc ns Ls : Nat} {st : List Nat} {r : mz_Rt} (C : mz_Cx X cc own Ts F) (E : mz_LX X cc r Ls) (hd : decode cc pc = .ok (.arraylength, 1)) (k : mz_G X (pc + 1) L (mz_n Ls :: st) M K n top nc ns) : mz_G X pc L (mz_ow 99 :: st) M K n top nc ns := by
  obtain ⟨p, l, e, R, s, m, args, below, meth, c, nL, D, cA, ao, ρ, A, n0, ad0, Q⟩ := X
  obtain ⟨hex, hb, hml, hown, hts, hK, hA, hF, hV⟩ := C
  obtain ⟨⟨e1, e2, e3⟩, -⟩ := E
  intro ad ls H locs hn had hZ hls hst
  have y := k ad ls H locs hn had hZ hls (mz_hd (mz_cl_I (mz_nw (ρ := ρ) _).1) (List.forall_mem_cons.mp hst).2)
  rw [List.map_cons, mz_cI (mz_nw (ρ := ρ) _).1, (mz_nw (ρ := ρ) _).2] at y
  rw [List.map_cons, (mz_ow_ok (n := n) (ad := ad) (ao := ao) (ρ := ρ) 99).1]
  exact va_slen hex hb e1 e2 e3 hZ.2.2.1 hd y
theorem mz_saldG {X : mz_Xt} {cc : ByteArray} {own : String} {Ts : List Jvm.Cond} {F : Nat → Nat × Nat} {pc L M K n top nc ns Ls i w : Nat} {st : List Nat} {r : mz_Rt} (C : mz_Cx X cc own Ts F) (E : mz_LX X cc r Ls) (hd : decode cc pc = .ok (.iaload, 1)) (hi : mz_sm i = true) (hl : mz_q i < Ls) (hw : mz_I w = true) (he : mz_i (mz_rho X) w = mz_rho X (mz_q i))
    (k : mz_G X (pc + 1) L (w :: st) M K n top nc ns) : mz_G X pc L (i :: mz_ow 99 :: st) M K n top nc ns := by
  obtain ⟨p, l, e, R, s, m, args, below, meth, c, nL, D, cA, ao, ρ, A, n0, ad0, Q⟩ := X
  obtain ⟨hex, hb, hml, hown, hts, hK, hA, hF, hV⟩ := C
  obtain ⟨⟨e1, e2, e3⟩, -⟩ := E
  change mz_i ρ w = ρ (mz_q i) at he
  intro ad ls H locs hn had hZ hls hst
  obtain ⟨i1, i2, i3⟩ := mz_ix (ρ := ρ) hi hl
  have y := k ad ls H locs hn had hZ hls (mz_hd (mz_cl_I hw) (List.forall_mem_cons.mp (List.forall_mem_cons.mp hst).2).2)
  rw [List.map_cons, mz_cI hw, he, ← i3] at y
  rw [List.map_cons, List.map_cons, (mz_ow_ok (n := n) (ad := ad) (ao := ao) (ρ := ρ) 99).1, mz_cI i1]
  exact va_sld hex hb e1 e2 e3 hZ.2.2.1 i2 hd y
