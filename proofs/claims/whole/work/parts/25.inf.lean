/-! THE STEPS: an instruction is a number: 8 bits its kind, 16 bits x, 20 bits y, 28 bits z (or, of constants, 32 bits behind x) -/
abbrev mz_Ca : Type := Nat → List Nat → Nat → Nat → Nat → Nat → Option mz_Rt
abbrev mz_Go : Type := Nat → Nat → List Nat → Nat → Nat → Nat → Nat → Nat → Nat → Option mz_Rt
abbrev mz_Se : Type := (Nat → Nat × Nat) → Nat → Nat → List mz_Hr → mz_Ca → mz_Go → Nat → Nat → Nat → List Nat → Nat → Nat → Nat → Nat → Nat → Nat → Option mz_Rt
abbrev mz_Ck : Type := String → String → ByteArray → Nat → Option FieldType → Nat → Nat → Bool
def mz_ex (e : Nat) : Nat := Nat.mod (Nat.shiftRight e 8) 65536
def mz_ey (e : Nat) : Nat := Nat.mod (Nat.shiftRight e 24) 1048576
def mz_ez (e : Nat) : Nat := Nat.shiftRight e 44
def mz_ea (e : Nat) : Nat := Nat.mod (Nat.shiftRight e 24) 4294967296
def mz_j (e : Nat) : Fin 4 := ⟨Nat.mod (mz_ex e) 4, Nat.mod_lt _ (by decide)⟩
def mz_z (a : Nat) : Int := if a < 2147483648 then (a : Int) else (a : Int) - 4294967296
def mz_wf (w : Nat) : Bool := Nat.ble (Nat.succ w) 281474976710656
theorem mz_wf_ok {w : Nat} (h : mz_wf w = true) : w < mz_B := mz_bl h
noncomputable def mz_p1 {α : Type} (st : List Nat) (k : Nat → List Nat → Option α) : Option α := List.rec (motive := fun _ => Option α) none (fun w l _ => k w l) st
theorem mz_p1_ok {α : Type} {st : List Nat} {k : Nat → List Nat → Option α} {r : α} (h : mz_p1 st k = some r) : ∃ w l, st = w :: l ∧ k w l = some r := by
  cases st with
  | nil => cases h
  | cons w l => exact ⟨w, l, rfl, h⟩
/-- so many words off the stack, the deepest first -/
noncomputable def mz_tk {α : Type} (na : Nat) (k : List Nat → List Nat → Option α) : List Nat → List Nat → Option α :=
  Nat.rec (motive := fun _ => List Nat → List Nat → Option α) (fun st acc => k acc st) (fun _ ih st acc => mz_p1 st fun w l => ih l (w :: acc)) na
theorem mz_tk_ok {α : Type} {k : List Nat → List Nat → Option α} {r : α} : ∀ (na : Nat) (st acc : List Nat), mz_tk na k st acc = some r → ∃ as rest, as.length = na ∧ st = as.reverse ++ rest ∧ k (as ++ acc) rest = some r
  | 0, st, acc, h => ⟨[], st, rfl, rfl, h⟩
  | na + 1, st, acc, h => by
    obtain ⟨w, l, rfl, h⟩ := mz_p1_ok (show mz_p1 st (fun w l => mz_tk na k l (w :: acc)) = some r from h)
    obtain ⟨as, rest, h1, rfl, h3⟩ := mz_tk_ok na l (w :: acc) h
    exact ⟨as ++ [w], rest, by simp [h1], by simp, by simpa using h3⟩
noncomputable def mz_len (st : List Nat) : Nat := List.rec (motive := fun _ => Nat) 0 (fun _ _ ih => Nat.succ ih) st
noncomputable def mz_l4 (st : List Nat) : Bool := Nat.ble (mz_len st) 4
theorem mz_len_eq : ∀ st : List Nat, mz_len st = st.length
  | [] => rfl
  | _ :: l => congrArg Nat.succ (mz_len_eq l)
theorem mz_l4_ok {st : List Nat} (h : mz_l4 st = true) : st.length ≤ 4 := by
  have := mz_bl (show Nat.ble (mz_len st) 4 = true from h)
  rwa [mz_len_eq] at this
/-- a walk from here comes to its end, with the room that the end's account says -/
def mz_Ok (X : mz_Xt) (r : mz_Rt) (pc L : Nat) (st : List Nat) (M K n top nc ns : Nat) : Prop := nc ≤ r.2.2.2.2.2.2.1 ∧ ns ≤ r.2.2.2.2.2.2.2 ∧ mz_G X pc L st M K n top nc ns
/-- the law's own context: its script, its end -/
def mz_LX : mz_Xt → ByteArray → mz_Rt → Nat → Prop
  | (p, l, e, R, s, m, args, below, meth, c, nL, D, cA, ao, ρ, A, n0, ad0, Q), cc, r, Ls => (va_X (ao 99) Ls ρ s s.heap ∧ ao 99 < s.heap.size ∧ ¬ A (ao 99)) ∧
    ∀ pc L M K n top nc ns w, decode cc pc = .ok (.ireturn, 1) → r = (0, some w, M, K, n, top, nc, ns) → mz_I w = true → mz_G (p, l, e, R, s, m, args, below, meth, c, nL, D, cA, ao, ρ, A, n0, ad0, Q) pc L [w] M K n top nc ns
/-- contexts: 0 a method without a table, 1 one with a table, 2 the law on a script of Ls ints (said as mo = 2 + Ls) -/
def mz_CX (X : mz_Xt) (cc : ByteArray) (own : String) (mo : Nat) (hs : List mz_Hr) (ret : Option FieldType) (r : mz_Rt) : Prop :=
  (mo = 0 → ∃ M0 K0 top0, mz_MX X ret false (mz_hh hs) M0 K0 top0 r) ∧ (mo = 1 → (∃ M0 K0 top0, mz_MX X ret true (mz_hh hs) M0 K0 top0 r) ∧ ∀ x ∈ hs, mz_hrow own cc x) ∧ (∀ Ls, mo = 2 + Ls → mz_LX X cc r Ls)
/-- the methods, by their numbers; how many words a call takes; how it is called -/
abbrev mz_Mk : Type := Nat → mz_Mt × Nat × Nat
def mz_cal (t : mz_Mt) (na kd : Nat) : Prop := mz_cw t ∈ mz_gG ∧ Jvm.Cond.initialized t.1.cls ∈ mz_gG ∧ mz_nh t.1 ∧ mz_na t.1 na ∧ t.2.2.1 ≤ 40 ∧ (kd = 0 → Jvm.Cond.static t.1 ∈ mz_gG) ∧
  (kd = 1 → t.2.2.2.2.1 = false ∧ Jvm.Cond.instanceMethod t.1 ∈ mz_gG ∧ Jvm.Cond.selects t.1.cls t.1 t.1 ∈ mz_gG) ∧ (kd = 2 → t.2.2.2.2.1 = false ∧ Jvm.Cond.instanceMethod t.1 ∈ mz_gG ∧ t.1.name = "<init>" ∧ t.2.2.2.1 = none) ∧
  (kd = 3 → t.2.2.2.2.1 = false ∧ Jvm.Cond.instanceMethod t.1 ∈ mz_gG ∧ t.1 = ⟨mz_itr, "hasNext", "()Z"⟩ ∧ Jvm.Cond.selects mz_itr mz_hasN t.1 ∈ mz_gG ∧ mz_na mz_hasN na) ∧
  (kd = 4 → t.2.2.2.2.1 = false ∧ Jvm.Cond.instanceMethod t.1 ∈ mz_gG ∧ t.1 = ⟨mz_itr, "next", "()Ljava/lang/Object;"⟩ ∧ Jvm.Cond.selects mz_itr mz_nextN t.1 ∈ mz_gG ∧ mz_na mz_nextN na)
def mz_HC (X : mz_Xt) (mk : mz_Mk) (d : Nat) (call : mz_Ca) : Prop := ∀ mi ws M K n top r1, call mi ws M K n top = some r1 → mz_Sp (mz_lz X) (mz_rho X) (mk mi).1 d ws M K n top r1 ∧ mz_cal (mk mi).1 (mk mi).2.1 (mk mi).2.2
def mz_HG (X : mz_Xt) (r : mz_Rt) (go : mz_Go) : Prop := ∀ pc L st M K n top nc ns, go pc L st M K n top nc ns = some r → mz_Ok X r pc L st M K n top nc ns
abbrev mz_Cy (X : mz_Xt) (mk : mz_Mk) (cc : ByteArray) (own : String) (F : Nat → Nat × Nat) (nL mo d : Nat) (hs : List mz_Hr) (ret : Option FieldType) (r : mz_Rt) (call : mz_Ca) (go : mz_Go) : Prop :=
  mz_Cx X cc own mz_gG F ∧ mz_OX X ∧ mz_nL X = nL ∧ (r.2.2.2.2.2.2.1 ≤ (mz_rm X).cells ∧ r.2.2.2.2.2.2.2 ≤ (mz_rm X).slots) ∧ (d + 9 ≤ (mz_rm X).frames ∧ 60 * d + 260 ≤ (mz_rm X).locals) ∧ mz_CX X cc own mo hs ret r ∧ mz_HC X mk d call ∧ mz_HG X r go
/-- a step and what is asked of the tables for it -/
def mz_Lk (mk : mz_Mk) (f : mz_Se) (k : mz_Ck) : Prop := ∀ (X : mz_Xt) (own : String) (cc : ByteArray) (F : Nat → Nat × Nat) (nL mo d : Nat) (hs : List mz_Hr) (ret : Option FieldType) (r : mz_Rt) (call : mz_Ca) (go : mz_Go) (e pc L : Nat) (st : List Nat) (M K n top nc ns : Nat),
  mz_Cy X mk cc own F nL mo d hs ret r call go → k own (mz_mn X) cc mo ret e pc = true → f F nL mo hs call go e pc L st M K n top nc ns = some r → mz_Ok X r pc L st M K n top nc ns
/-- a tree of choices by number -/
def mz_nd {α : Type} (k : Nat) (a b : Nat → α) : Nat → α := fun op => bif Nat.ble op k then a op else b op
def mz_lf {α : Type} (a : α) : Nat → α := fun _ => a
theorem mz_nd_ok {α β : Type} {P : α → β → Prop} {k : Nat} {a b : Nat → α} {a' b' : Nat → β} (h1 : ∀ op, P (a op) (a' op)) (h2 : ∀ op, P (b op) (b' op)) : ∀ op, P (mz_nd k a b op) (mz_nd k a' b' op) := fun op => by
  unfold mz_nd
  cases Nat.ble op k
  · exact h2 op
  · exact h1 op
theorem mz_lf_ok {α β : Type} {P : α → β → Prop} {a : α} {a' : β} (h : P a a') : ∀ op : Nat, P (mz_lf a op) (mz_lf a' op) := fun _ => h
theorem mz_bfg {X : mz_Xt} {cc : ByteArray} {own : String} {F : Nat → Nat × Nat} (C : mz_Cx X cc own mz_gG F) {w : Jvm.Cond} (h : w ∈ mz_gG) : mz_bf X w := by
  obtain ⟨p, l, e, R, s, m, args, below, meth, c, nL, D, cA, ao, ρ, A, n0, ad0, Q⟩ := X
  exact C.2.2.2.2.1 w h
theorem mz_bfn {X : mz_Xt} (O : mz_OX X) {w : Jvm.Cond} (h : w ∈ lw_tbl) (h2 : mz_nk w = true) : mz_bf X w := by
  obtain ⟨p, l, e, R, s, m, args, below, meth, c, nL, D, cA, ao, ρ, A, n0, ad0, Q⟩ := X
  refine va_Nw.use ?_ (O.2.2.2.2.2.1 w h h2)
  cases w <;> first | rfl | cases h2
theorem mz_bfa {X : mz_Xt} (O : mz_OX X) {C0 : String} (h : Jvm.Cond.arrayOver (.object C0) ∈ lw_tbl) : mz_bf X (Jvm.Cond.arrayOver (.object C0)) := by
  obtain ⟨p, l, e, R, s, m, args, below, meth, c, nL, D, cA, ao, ρ, A, n0, ad0, Q⟩ := X
  exact (O.2.2.2.2.2.2.1 C0 h).use
/-- the word at that place of the tables, a good one -/
def mz_wi (i : Nat) (w : Jvm.Cond) : Prop := lw_tbl[i]? = some w ∧ goodWord w = true
theorem mz_wi_ok {i : Nat} {w : Jvm.Cond} (h : mz_wi i w) : w ∈ mz_gG := List.mem_filter.mpr ⟨List.mem_of_getElem? h.1, h.2⟩
theorem mz_bft {a b : Bool} (h : (bif a then b else false) = true) : a = true ∧ b = true := by
  cases a
  · cases h
  · exact ⟨rfl, h⟩
theorem mz_elim {α : Type} {o : Option α} {f : α → Bool} (h : o.elim false f = true) : ∃ q, o = some q ∧ f q = true := by
  cases o with
  | none => cases h
  | some q => exact ⟨q, rfl, h⟩
noncomputable def mz_bd {α β : Type} (o : Option α) (f : α → Option β) : Option β := Option.rec (motive := fun _ => Option β) none f o
theorem mz_bd_ok {α β : Type} {o : Option α} {f : α → Option β} {r : β} (h : mz_bd o f = some r) : ∃ x, o = some x ∧ f x = some r := by
  cases o with
  | none => cases h
  | some x => exact ⟨x, rfl, h⟩
theorem mz_iff {α : Type} {c : Bool} {a : Option α} {r : α} (h : (bif c then none else a) = some r) : c = false ∧ a = some r := by
  cases c
  · exact ⟨rfl, h⟩
  · cases h
theorem mz_off (a b : Nat) : (b : Int) + (Int.ofNat a - Int.ofNat b) = (a : Int) := by
  show (b : Int) + ((a : Int) - (b : Int)) = (a : Int)
  omega
theorem mz_CF {X : mz_Xt} {cc : ByteArray} {own : String} {Ts : List Jvm.Cond} {F : Nat → Nat × Nat} (C : mz_Cx X cc own Ts F) : mz_F F (mz_rho X) := by
  obtain ⟨p, l, e, R, s, m, args, below, meth, c, nL, D, cA, ao, ρ, A, n0, ad0, Q⟩ := X
  exact C.2.2.2.2.2.2.2.1
theorem mz_CV {X : mz_Xt} {cc : ByteArray} {own : String} {Ts : List Jvm.Cond} {F : Nat → Nat × Nat} (C : mz_Cx X cc own Ts F) : mz_V (mz_rho X) := by
  obtain ⟨p, l, e, R, s, m, args, below, meth, c, nL, D, cA, ao, ρ, A, n0, ad0, Q⟩ := X
  exact C.2.2.2.2.2.2.2.2
theorem mz_31 (ρ : Nat → Int32) {y : Nat} (h : mz_sm y = true) (h2 : mz_q y < 32) : mz_i ρ y &&& 31 = mz_i ρ y := by
  rw [(mz_s1 (ρ := ρ) (mz_sm_ok h).1).2]
  exact mz_and31 ⟨mz_q y, h2⟩
