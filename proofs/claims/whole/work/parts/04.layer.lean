/-! MY LAYER over the kit: a state St of numbers and rows; a world w : St → cells; a method's context; rows for gets, puts, array reads and writes, calls, ends -/
abbrev St : Type := (Nat → Int32) × (Nat → Int64) × (Nat → Nat → Int32)
def fI (S : St) (k : Nat) : Int32 := S.1 k
def fL (S : St) (k : Nat) : Int64 := S.2.1 k
def fA (S : St) (k : Nat) : Nat → Int32 := S.2.2 k
def sI (S : St) (k : Nat) (x : Int32) : St := (fun j => if j = k then x else S.1 j, S.2)
def sL (S : St) (k : Nat) (x : Int64) : St := (S.1, fun j => if j = k then x else S.2.1 j, S.2.2)
def sA (S : St) (k : Nat) (f : Nat → Int32) : St := (S.1, S.2.1, fun j => if j = k then f else S.2.2 j)
/-- a read of a row of n places -/
def rd (f : Nat → Int32) (n : Nat) (i : Int32) : Option Int32 := if 0 ≤ i.toInt ∧ i.toInt < n then some (f i.toNatClampNeg) else none
/-- a write -/
def wr (f : Nat → Int32) (n : Nat) (i x : Int32) : Option (Nat → Int32) := if 0 ≤ i.toInt ∧ i.toInt < n then some (upd f i.toNatClampNeg x) else none
/-- an array copy -/
def cp (f : Nat → Int32) (n0 : Nat) (sp : Int32) (g : Nat → Int32) (n1 : Nat) (dp n : Int32) : Option (Nat → Int32) :=
  if 0 ≤ sp.toInt ∧ 0 ≤ dp.toInt ∧ 0 ≤ n.toInt ∧ sp.toInt + n.toInt ≤ n0 ∧ dp.toInt + n.toInt ≤ n1 then some (va_cpy f g sp.toNatClampNeg dp.toNatClampNeg n.toNatClampNeg) else none
theorem rd_some {f : Nat → Int32} {n : Nat} {i v : Int32} (h : rd f n i = some v) : vp_in i n ∧ v = f i.toNatClampNeg := by
  unfold rd at h
  split at h
  · rename_i h1
    exact ⟨vp_in_iff.mpr h1, (Option.some.inj h).symm⟩
  · cases h
theorem wr_some {f g : Nat → Int32} {n : Nat} {i x : Int32} (h : wr f n i x = some g) : vp_in i n ∧ g = upd f i.toNatClampNeg x := by
  unfold wr at h
  split at h
  · rename_i h1
    exact ⟨vp_in_iff.mpr h1, (Option.some.inj h).symm⟩
  · cases h
theorem bs {α β : Type} {x : Option α} {f : α → Option β} {r : β} (h : x.bind f = some r) : ∃ y, x = some y ∧ f y = some r := by
  cases x with
  | none => cases h
  | some y => exact ⟨y, rfl, h⟩
theorem sd_clampT {x : Int32} (h : 0 ≤ x.toInt) : (x.toNatClampNeg : Int) = x.toInt := by
  show ((x.toInt.toNat : Nat) : Int) = x.toInt
  omega
theorem cp_some {f g r : Nat → Int32} {n0 n1 : Nat} {sp dp n : Int32} (h : cp f n0 sp g n1 dp n = some r) : ¬ sp < 0 ∧ ¬ dp < 0 ∧ ¬ n < 0 ∧ sp.toNatClampNeg + n.toNatClampNeg ≤ n0 ∧ dp.toNatClampNeg + n.toNatClampNeg ≤ n1 ∧ r = va_cpy f g sp.toNatClampNeg dp.toNatClampNeg n.toNatClampNeg := by
  unfold cp at h
  split at h
  · rename_i h1
    obtain ⟨a, b, c, d, e⟩ := h1
    have ea := sd_clampT a
    have eb := sd_clampT b
    have ec := sd_clampT c
    refine ⟨?_, ?_, ?_, by omega, by omega, (Option.some.inj h).symm⟩
    all_goals
      rw [Int32.lt_iff_toInt_lt]
      have z : (0 : Int32).toInt = 0 := rfl
      omega
  · cases h
/-- words of nest mates, kept by every step -/
def sd_isNest : Cond → Bool
  | .fieldLinkNest .. => true
  | .methodLinkNest .. => true
  | _ => false
theorem sd_nestW {w : Cond} (h : sd_isNest w = true) {s U : State} (hW : s.WarmedH U.vm) (hZ : va_Nw w s) : va_Nw w U := by
  cases w <;> first | exact va_Nw.warmF hW hZ | exact va_Nw.warmM hW hZ | (exact absurd h (by simp [sd_isNest]))
theorem sd_nestS {w : Cond} (h : sd_isNest w = true) {s U : State} (hW : s.vm = U.vm) (hZ : va_Nw w s) : va_Nw w U := by
  cases w <;> first | exact va_Nw.same rfl hW hZ | (exact absurd h (by simp [sd_isNest]))
/-- what the tables say of a state: the classes, int[], the nest mates' words -/
def sd_K (D : va_G) (cl : List vw_C) (cA : ClassId) (nw : List Cond) (U : State) : Prop := va_K D cl [(cA, .int)] U ∧ ∀ w ∈ nw, sd_isNest w = true ∧ va_Nw w U
theorem sd_K.warm {D : va_G} {cl : List vw_C} {cA : ClassId} {nw : List Cond} {s U : State} (hW : s.WarmedH U.vm) (h : sd_K D cl cA nw s) : sd_K D cl cA nw U := ⟨va_K.moved hW.alike h.1, fun w hw => ⟨(h.2 w hw).1, sd_nestW (h.2 w hw).1 hW (h.2 w hw).2⟩⟩
theorem sd_K.same {D : va_G} {cl : List vw_C} {cA : ClassId} {nw : List Cond} {s U : State} (hW : s.vm = U.vm) (h : sd_K D cl cA nw s) : sd_K D cl cA nw U := ⟨va_K.moved (by rw [hW]; exact Vm.Alike.refl _) h.1, fun w hw => ⟨(h.2 w hw).1, sd_nestS (h.2 w hw).1 hW (h.2 w hw).2⟩⟩
/-- the context of a method's body -/
def sd_Cx (own : String) (cc : ByteArray) (nL : Nat) (ret : Option FieldType) (Ts : List Cond) (p : Program) (s : State) (m : MethodId) (args : Array Value) (meth : Method) (c : Code) : Prop :=
  p.tables.exec = Jvm.exec ∧ c.code = cc ∧ c.maxLocals = nL ∧ s.vm.findClass own = some m.cls ∧ (∀ w ∈ Ts, w.before args s = true) ∧ meth.sig.returnType = ret ∧ meth.locks = false
/-- the world between two instructions -/
def sd_Wd (D : va_G) (cl : List vw_C) (cA : ClassId) (nw : List Cond) (w : St → va_W) (A : Nat → Prop) (s : State) (S : St) (H : Heap) (locs : List Loc) : Prop :=
  sd_K D cl cA nw s ∧ va_P D cl (w S) H ∧ va_D A (w S) ∧ va_S A s.heap H locs ∧ ∀ q, s.heap.size ≤ q → A q
/-- a contract's start and ends -/
def sd_pre (D : va_G) (cl : List vw_C) (cA : ClassId) (nw : List Cond) (w : St → va_W) (S : St) (sz : Nat) (U : State) : Prop := U.heap.size = sz ∧ sd_K D cl cA nw U ∧ va_P D cl (w S) U.heap ∧ va_D (fun _ => True) (w S)
def sd_Qi (D : va_G) (cl : List vw_C) (w : St → va_W) (A : Nat → Prop) (q : Int32 × St) : Array Value → State → Outcome → State → Prop := va_Qi (fun r (_ : Unit) => r = q.1) (fun _ t => va_P D cl (w q.2) t.heap ∧ va_D A (w q.2)) A
def sd_Ql (D : va_G) (cl : List vw_C) (w : St → va_W) (A : Nat → Prop) (q : Int64 × St) : Array Value → State → Outcome → State → Prop := va_Ql (fun r (_ : Unit) => r = q.1) (fun _ t => va_P D cl (w q.2) t.heap ∧ va_D A (w q.2)) A
def sd_Qv (D : va_G) (cl : List vw_C) (w : St → va_W) (A : Nat → Prop) (q : St) : Array Value → State → Outcome → State → Prop := va_Qv (fun (_ : Unit) => True) (fun _ t => va_P D cl (w q) t.heap ∧ va_D A (w q)) A
def sd_MI (l : Launch) (D : va_G) (cl : List vw_C) (cA : ClassId) (nw : List Cond) (w : St → va_W) (y : MethodName) (Tc : List Cond) (rm : Room) (As : List Value) (S : St) (q : Int32 × St) : Prop := ∀ sz, Met l y Tc rm (va_Pc As (sd_pre D cl cA nw w S sz)) (sd_Qi D cl w (va_A (w S) sz) q) 0 0 (va_A (w S) sz)
def sd_ML (l : Launch) (D : va_G) (cl : List vw_C) (cA : ClassId) (nw : List Cond) (w : St → va_W) (y : MethodName) (Tc : List Cond) (rm : Room) (As : List Value) (S : St) (q : Int64 × St) : Prop := ∀ sz, Met l y Tc rm (va_Pc As (sd_pre D cl cA nw w S sz)) (sd_Ql D cl w (va_A (w S) sz) q) 0 0 (va_A (w S) sz)
def sd_MV (l : Launch) (D : va_G) (cl : List vw_C) (cA : ClassId) (nw : List Cond) (w : St → va_W) (y : MethodName) (Tc : List Cond) (rm : Room) (As : List Value) (S : St) (q : St) : Prop := ∀ sz, Met l y Tc rm (va_Pc As (sd_pre D cl cA nw w S sz)) (sd_Qv D cl w (va_A (w S) sz) q) 0 0 (va_A (w S) sz)
theorem sd_blind {D : va_G} {cl : List vw_C} {cA : ClassId} {nw : List Cond} {w : St → va_W} {S : St} {sz : Nat} {As : List Value} : FrameBlind (va_Pc As (sd_pre D cl cA nw w S sz)) := by
  intro a U g mk q
  obtain ⟨q0, q1, qK, qP, qD⟩ := q
  exact ⟨q0, q1, sd_K.same (s := U) (U := U.calling g mk a) rfl qK, qP, qD⟩
theorem sd_preU {D : va_G} {cl : List vw_C} {cA : ClassId} {nw : List Cond} {w : St → va_W} {A : Nat → Prop} {s : State} {S : St} {H : Heap} {locs : List Loc} (h : sd_Wd D cl cA nw w A s S H locs) (As : List Value) : ∀ U : State, U.heap = H → s.WarmedH U.vm → va_Pc As (sd_pre D cl cA nw w S H.size) As.toArray U := by
  intro U hU hW
  exact ⟨rfl, by rw [hU], h.1.warm hW, by rw [hU]; exact h.2.1, h.2.2.1.weaken (fun _ _ _ _ => trivial)⟩
theorem sd_free {D : va_G} {cl : List vw_C} {cA : ClassId} {nw : List Cond} {w : St → va_W} {A : Nat → Prop} {s : State} {S : St} {H : Heap} {locs : List Loc} (h : sd_Wd D cl cA nw w A s S H locs) : ∀ q, va_A (w S) H.size q → A q := by
  intro q hq
  rcases hq with ⟨k, e, hk⟩ | hq
  · exact h.2.2.1.2 k _ hk
  · exact h.2.2.2.2 q (Nat.le_trans h.2.2.2.1.1 hq)
theorem sd_back {D : va_G} {cl : List vw_C} {cA : ClassId} {nw : List Cond} {w : St → va_W} {A : Nat → Prop} {s : State} {S S1 : St} {H H1 : Heap} {locs locs1 : List Loc} (h : sd_Wd D cl cA nw w A s S H locs) (hP : va_P D cl (w S1) H1) (hD : va_D (va_A (w S) H.size) (w S1)) (hS : va_S A s.heap H1 locs1) : sd_Wd D cl cA nw w A s S1 H1 locs1 :=
  ⟨h.1, hP, hD.weaken (fun _ q _ hq => sd_free h q.1 hq), hS, h.2.2.2.2⟩
/-- ONE list of words for all methods: those of the tables that every step keeps -/
def sd_big : List Cond := lw_tbl.filter goodWord
theorem sd_mem {k : Nat} {x : Cond} (h : lw_tbl[k]? = some x) (g : goodWord x = true) : x ∈ sd_big := List.mem_filter.mpr ⟨List.mem_of_getElem? h, g⟩
theorem sd_goodIn {c1 c2 : Cond} (h : c2 ∈ sd_big) : GoodIn (c1 :: sd_big) (c2 :: sd_big) := by
  intro x hx
  have hx2 : x ∈ sd_big := by
    rcases List.mem_cons.mp hx with rfl | hx
    · exact h
    · exact hx
  exact ⟨List.mem_cons_of_mem _ hx2, good_of_word (List.mem_filter.mp hx2).2⟩
section SD
variable {p : Program} {l : Launch} {e : Env} {R : Room} {s : State} {m : MethodId} {args : Array Value} {below : List Frame} {meth : Method} {c : Code} {H : Heap} {locs : List Loc} {cells slots : Nat} {Q : State → Prop}
variable {cc : ByteArray} {pc nL : Nat} {ret : Option FieldType} {ls : Array Slot} {rest st0 : List Value} {D : va_G} {cl : List vw_C} {A : Nat → Prop} {a : Nat} {cA : ClassId} {nw Ts : List Cond} {k0 : Cond} {own : String} {w : St → va_W} {S S1 : St}
theorem sd_get (C0 : sd_Cx own cc nL ret (k0 :: sd_big) p s m args meth c) (h : sd_Wd D cl cA nw w A s S H locs) {C : String} {T : u_T} {N ci index : Nat} (hin : ∀ x ∈ u_ws C T N, x ∈ sd_big) (q0 : Nat) {fs : List Value} (he : (w S)[q0]? = some (a, .inr (ci, fs))) (hc : cl[ci]? = some (C, T, N)) (k : Nat) (hk : k < N) (hm : Cond.fieldLink own index (T k).1 (T k).2.1 (T k).2.2.1 ∈ sd_big) {v : Value} (hv : fs[k]? = some v) (hdg : decode cc pc = .ok (.getfield index, 3))
    (kk : W p l e R s m args below meth c H locs cells slots Q (F0 m (pc + 3) ls (v :: rest))) : W p l e R s m args below meth c H locs cells slots Q (F0 m pc ls (.ref a :: rest)) :=
  va_get C0.1 C0.2.1 C0.2.2.2.2.1 (fun x hx => List.mem_cons_of_mem _ (hin x hx)) C0.2.2.2.1 h.1.1 h.2.1 q0 he hc k hk (C0.2.2.2.2.1 _ (List.mem_cons_of_mem _ hm)) (fun _ h9 => h9) hv hdg kk
theorem sd_put (C0 : sd_Cx own cc nL ret (k0 :: sd_big) p s m args meth c) (h : sd_Wd D cl cA nw w A s S H locs) {C : String} {T : u_T} {N ci index : Nat} (hin : ∀ x ∈ u_ws C T N, x ∈ sd_big) (ty0 : Nat → FieldType) (hty : ∀ k, k < N → parseFieldDescriptor (T k).2.2.1 = some (ty0 k)) (hnm : ∀ a, a < N → ∀ b, b < N → a ≠ b → (T a).2.1 ≠ (T b).2.1) (q0 : Nat) {fs : List Value} (he : (w S)[q0]? = some (a, .inr (ci, fs))) (hc : cl[ci]? = some (C, T, N)) (k : Nat) (hk : k < N) (hm : Cond.fieldLink own index (T k).1 (T k).2.1 (T k).2.2.1 ∈ sd_big) (hfin : (T k).2.2.2 = false) {ty : FieldType} {v : Value} (hd : parseFieldDescriptor (T k).2.2.1 = some ty) (hn : narrow ty v = v) (hfit : fits ty v = true) (hl : k < fs.length) (hset : (w S).set q0 (a, .inr (ci, fs.set k v)) = w S1) (hdg : decode cc pc = .ok (.putfield index, 3))
    (kk : ∀ (H1 : Heap) (locs1 : List Loc), sd_Wd D cl cA nw w A s S1 H1 locs1 → W p l e R s m args below meth c H1 locs1 cells slots Q (F0 m (pc + 3) ls rest)) : W p l e R s m args below meth c H locs cells slots Q (F0 m pc ls (v :: .ref a :: rest)) :=
  va_put C0.1 C0.2.1 C0.2.2.2.2.1 (fun x hx => List.mem_cons_of_mem _ (hin x hx)) ty0 hty hnm C0.2.2.2.1 h.1.1 h.2.1 h.2.2.1 h.2.2.2.1 q0 he hc k hk (C0.2.2.2.2.1 _ (List.mem_cons_of_mem _ hm)) (fun _ h9 => h9) hfin hd hn hfit hl hdg (fun H1 locs1 hP hD hS => kk H1 locs1 ⟨h.1, hset ▸ hP, hset ▸ hD, hS, h.2.2.2.2⟩)
theorem sd_rd (C0 : sd_Cx own cc nL ret Ts p s m args meth c) (h : sd_Wd D cl cA nw w A s S H locs) (q0 : Nat) {n : Nat} {f : Nat → Int32} (ha : (w S)[q0]? = some (a, .inl (cA, n, .inl f))) {i v : Int32} (hv : rd f n i = some v) (hdg : decode cc pc = .ok (.iaload, 1))
    (kk : W p l e R s m args below meth c H locs cells slots Q (F0 m (pc + 1) ls (.int v :: rest))) : W p l e R s m args below meth c H locs cells slots Q (F0 m pc ls (.int i :: .ref a :: rest)) := by
  obtain ⟨h1, rfl⟩ := rd_some hv
  exact va_iald C0.1 C0.2.1 h.1.1 h.2.1 q0 0 ha rfl h1 hdg kk
theorem sd_wr (C0 : sd_Cx own cc nL ret Ts p s m args meth c) (h : sd_Wd D cl cA nw w A s S H locs) (q0 : Nat) {n : Nat} {f g : Nat → Int32} (ha : (w S)[q0]? = some (a, .inl (cA, n, .inl f))) {i x : Int32} (hv : wr f n i x = some g) (hset : (w S).set q0 (a, .inl (cA, n, .inl g)) = w S1) (hdg : decode cc pc = .ok (.iastore, 1))
    (kk : ∀ (H1 : Heap) (locs1 : List Loc), sd_Wd D cl cA nw w A s S1 H1 locs1 → W p l e R s m args below meth c H1 locs1 cells slots Q (F0 m (pc + 1) ls rest)) : W p l e R s m args below meth c H locs cells slots Q (F0 m pc ls (.int x :: .int i :: .ref a :: rest)) := by
  obtain ⟨h1, rfl⟩ := wr_some hv
  exact va_iast C0.1 C0.2.1 h.1.1 h.2.1 h.2.2.1 h.2.2.2.1 q0 0 ha rfl h1 hdg (fun H1 locs1 hP hD hS => kk H1 locs1 ⟨h.1, hset ▸ hP, hset ▸ hD, hS, h.2.2.2.2⟩)
theorem sd_len (C0 : sd_Cx own cc nL ret Ts p s m args meth c) (h : sd_Wd D cl cA nw w A s S H locs) (q0 : Nat) {x : vp_A} (ha : (w S)[q0]? = some (a, .inl (cA, x))) {v : Int32} (hv : Int32.ofNat x.1 = v) (hdg : decode cc pc = .ok (.arraylength, 1))
    (kk : W p l e R s m args below meth c H locs cells slots Q (F0 m (pc + 1) ls (.int v :: rest))) : W p l e R s m args below meth c H locs cells slots Q (F0 m pc ls (.ref a :: rest)) :=
  va_alen C0.1 C0.2.1 h.1.1 h.2.1 q0 0 ha rfl hv hdg kk
theorem sd_iret (C0 : sd_Cx own cc nL (some .int) Ts p s m args meth c) (h : sd_Wd D cl cA nw w A s S H locs) {v : Int32} {q : Int32 × St} (hm : (v, S) = q) (hdg : decode cc pc = .ok (.ireturn, 1)) : W p l e R s m args below meth c H locs cells slots (MQ below (sd_Qi D cl w A q) args s cells slots A) (F0 m pc ls [.int v]) := by
  subst hm
  have hlocks : meth.locks = false := C0.2.2.2.2.2.2
  exact W.iret C0.1 C0.2.1 C0.2.2.2.2.2.1 (fun t ht hW => ⟨⟨v, (), rfl, rfl, by rw [ht]; exact h.2.1, h.2.2.1⟩, h.2.2.2.1.F ht⟩) h.2.2.2.1.2.2 hdg hlocks
theorem sd_zret (C0 : sd_Cx own cc nL (some .boolean) Ts p s m args meth c) (h : sd_Wd D cl cA nw w A s S H locs) {v : Int32} {q : Int32 × St} (hm : (v, S) = q) (hn : narrow .boolean (.int v) = .int v) (hdg : decode cc pc = .ok (.ireturn, 1)) : W p l e R s m args below meth c H locs cells slots (MQ below (sd_Qi D cl w A q) args s cells slots A) (F0 m pc ls [.int v]) := by
  subst hm
  have hlocks : meth.locks = false := C0.2.2.2.2.2.2
  exact W.zret C0.1 C0.2.1 C0.2.2.2.2.2.1 hn (fun t ht hW => ⟨⟨v, (), rfl, rfl, by rw [ht]; exact h.2.1, h.2.2.1⟩, h.2.2.2.1.F ht⟩) h.2.2.2.1.2.2 hdg hlocks
theorem sd_lret (C0 : sd_Cx own cc nL (some .long) Ts p s m args meth c) (h : sd_Wd D cl cA nw w A s S H locs) {v : Int64} {q : Int64 × St} (hm : (v, S) = q) (hdg : decode cc pc = .ok (.lreturn, 1)) : W p l e R s m args below meth c H locs cells slots (MQ below (sd_Ql D cl w A q) args s cells slots A) (F0 m pc ls [.long v]) := by
  subst hm
  have hlocks : meth.locks = false := C0.2.2.2.2.2.2
  exact W.lret C0.1 C0.2.1 C0.2.2.2.2.2.1 (fun t ht hW => ⟨⟨v, (), rfl, rfl, by rw [ht]; exact h.2.1, h.2.2.1⟩, h.2.2.2.1.F ht⟩) h.2.2.2.1.2.2 hdg hlocks
theorem sd_vret (C0 : sd_Cx own cc nL none Ts p s m args meth c) (h : sd_Wd D cl cA nw w A s S H locs) {q : St} (hm : S = q) (hdg : decode cc pc = .ok (.return_, 1)) : W p l e R s m args below meth c H locs cells slots (MQ below (sd_Qv D cl w A q) args s cells slots A) (F0 m pc ls []) := by
  subst hm
  have hlocks : meth.locks = false := C0.2.2.2.2.2.2
  exact W.vret C0.1 C0.2.1 C0.2.2.2.2.2.1 (fun t ht hW => ⟨⟨(), rfl, trivial, by rw [ht]; exact h.2.1, h.2.2.1⟩, h.2.2.2.1.F ht⟩) h.2.2.2.1.2.2 hdg hlocks
end SD
def sd_cal (y : MethodName) (bytes : ByteArray) (maxL : Nat) (ret : Option FieldType) (n : Nat) : Prop := Cond.code y bytes maxL ret ∈ sd_big ∧ Cond.initialized y.cls ∈ sd_big ∧ (y.cls ≠ "java/lang/invoke/MethodHandle" ∧ y.cls ≠ "java/lang/invoke/VarHandle" ∧ (parseMethodDescriptor y.desc).map (fun d => d.parameters.length) = some n)
def sd_calV (y : MethodName) (bytes : ByteArray) (maxL : Nat) (ret : Option FieldType) (n : Nat) : Prop := sd_cal y bytes maxL ret n ∧ Cond.instanceMethod y ∈ sd_big ∧ Cond.selects y.cls y y ∈ sd_big
def sd_calS (y : MethodName) (bytes : ByteArray) (maxL : Nat) (ret : Option FieldType) (n : Nat) : Prop := sd_cal y bytes maxL ret n ∧ Cond.static y ∈ sd_big
/-- the callee's room in the caller's -/
abbrev sd_rm (rm : Room) (maxL : Nat) (R : Room) : Prop := rm.cells = 0 ∧ rm.slots = 0 ∧ rm.frames + 1 ≤ R.frames ∧ 8 + (maxL + 11) + rm.locals ≤ R.locals
section SE
variable {p : Program} {l : Launch} {e : Env} {R : Room} {s : State} {m : MethodId} {args : Array Value} {below : List Frame} {meth : Method} {c : Code} {H : Heap} {locs : List Loc} {cells slots : Nat} {Q : State → Prop}
variable {cc bytes : ByteArray} {pc nL maxL n index : Nat} {ret rt : Option FieldType} {ls : Array Slot} {rest st0 : List Value} {D : va_G} {cl : List vw_C} {A : Nat → Prop} {b : Nat} {cA : ClassId} {nw : List Cond} {k0 : Cond} {own : String} {w : St → va_W} {S : St} {y : MethodName} {rm : Room}
theorem sd_cwB (C0 : sd_Cx own cc nL ret (k0 :: sd_big) p s m args meth c) (hy : sd_cal y bytes maxL rt n) (hl : Cond.methodLink own index y ∈ sd_big) (hR : sd_rm rm maxL R) : CallB R s args own index y bytes maxL rt (Cond.code y bytes maxL rt :: sd_big) rm 0 0 n :=
  callB_of n C0.2.2.2.2.1 (sd_goodIn hy.1) rfl hR.1 hR.2.1 (C0.2.2.2.2.1 _ (List.mem_cons_of_mem _ hy.2.1)) (C0.2.2.2.2.1 _ (List.mem_cons_of_mem _ hl)) hy.2.2 hR.2.2
theorem sd_Vi (C0 : sd_Cx own cc nL ret (k0 :: sd_big) p s m args meth c) (h : sd_Wd D cl cA nw w A s S H locs) (hy : sd_calV y bytes maxL rt n) (hl : Cond.methodLink own index y ∈ sd_big) (q0 : Nat) {ci N : Nat} {T : u_T} {fs : List Value} (he : (w S)[q0]? = some (b, .inr (ci, fs))) (hc : cl[ci]? = some (y.cls, T, N)) (As : List Value) {q : Int32 × St} (hM : sd_MI l D cl cA nw w y (Cond.code y bytes maxL rt :: sd_big) rm (.ref b :: As) S q) (hn : As.length = n) (hs : ls.size = nL) (hst : st0 = As.reverse ++ .ref b :: rest) (hW : (rest.map fun v => v.category).sum ≤ 8) (hR : sd_rm rm maxL R) (hdg : decode cc pc = .ok (.invokevirtual index, 3)) (hf : cells ≤ R.cells ∧ slots ≤ R.slots)
    (kk : ∀ (H1 : Heap) (locs1 : List Loc), sd_Wd D cl cA nw w A s q.2 H1 locs1 → W p l e R s m args below meth c H1 locs1 cells slots Q (F0 m (pc + 3) ls (.int q.1 :: rest))) : W p l e R s m args below meth c H locs cells slots Q (F0 m pc ls st0) := by
  refine va_calli (va_runV (As := As) (rest := rest) ⟨C0.1, C0.2.1, C0.2.2.1, C0.2.2.2.1, C0.2.2.2.2.1⟩ (hM H.size) ⟨sd_cwB C0 hy.1 hl hR, C0.2.2.2.2.1 _ (List.mem_cons_of_mem _ hy.2.1), C0.2.2.2.2.1 _ (List.mem_cons_of_mem _ hy.2.2)⟩ ⟨sd_blind, va_recv h.1.1 h.2.1 hc he, sd_preU h (.ref b :: As)⟩ rfl hn hs hst (lv_room hW) hdg hf) h.2.2.2.1 (fun q _ hq => sd_free h q hq) (sd_free h) (fun r u t H1 locs1 ht hvm hp hB hz hk hS => ?_)
  subst hp
  exact kk H1 locs1 (sd_back h (ht ▸ hB.1) hB.2 hS)
theorem sd_Vv (C0 : sd_Cx own cc nL ret (k0 :: sd_big) p s m args meth c) (h : sd_Wd D cl cA nw w A s S H locs) (hy : sd_calV y bytes maxL rt n) (hl : Cond.methodLink own index y ∈ sd_big) (q0 : Nat) {ci N : Nat} {T : u_T} {fs : List Value} (he : (w S)[q0]? = some (b, .inr (ci, fs))) (hc : cl[ci]? = some (y.cls, T, N)) (As : List Value) {q : St} (hM : sd_MV l D cl cA nw w y (Cond.code y bytes maxL rt :: sd_big) rm (.ref b :: As) S q) (hn : As.length = n) (hs : ls.size = nL) (hst : st0 = As.reverse ++ .ref b :: rest) (hW : (rest.map fun v => v.category).sum ≤ 8) (hR : sd_rm rm maxL R) (hdg : decode cc pc = .ok (.invokevirtual index, 3)) (hf : cells ≤ R.cells ∧ slots ≤ R.slots)
    (kk : ∀ (H1 : Heap) (locs1 : List Loc), sd_Wd D cl cA nw w A s q H1 locs1 → W p l e R s m args below meth c H1 locs1 cells slots Q (F0 m (pc + 3) ls rest)) : W p l e R s m args below meth c H locs cells slots Q (F0 m pc ls st0) := by
  refine va_callv (va_runV (As := As) (rest := rest) ⟨C0.1, C0.2.1, C0.2.2.1, C0.2.2.2.1, C0.2.2.2.2.1⟩ (hM H.size) ⟨sd_cwB C0 hy.1 hl hR, C0.2.2.2.2.1 _ (List.mem_cons_of_mem _ hy.2.1), C0.2.2.2.2.1 _ (List.mem_cons_of_mem _ hy.2.2)⟩ ⟨sd_blind, va_recv h.1.1 h.2.1 hc he, sd_preU h (.ref b :: As)⟩ rfl hn hs hst (lv_room hW) hdg hf) h.2.2.2.1 (fun q _ hq => sd_free h q hq) (sd_free h) (fun u t H1 locs1 ht hvm hp hB hz hk hS => ?_)
  exact kk H1 locs1 (sd_back h (ht ▸ hB.1) hB.2 hS)
theorem sd_Si (C0 : sd_Cx own cc nL ret (k0 :: sd_big) p s m args meth c) (h : sd_Wd D cl cA nw w A s S H locs) (hy : sd_calS y bytes maxL rt n) (hl : Cond.methodLink own index y ∈ sd_big) (As : List Value) {q : Int32 × St} (hM : sd_MI l D cl cA nw w y (Cond.code y bytes maxL rt :: sd_big) rm As S q) (hn : As.length = n) (hs : ls.size = nL) (hst : st0 = As.reverse ++ rest) (hW : (rest.map fun v => v.category).sum ≤ 8) (hR : sd_rm rm maxL R) (hdg : decode cc pc = .ok (.invokestatic index, 3)) (hf : cells ≤ R.cells ∧ slots ≤ R.slots)
    (kk : ∀ (H1 : Heap) (locs1 : List Loc), sd_Wd D cl cA nw w A s q.2 H1 locs1 → W p l e R s m args below meth c H1 locs1 cells slots Q (F0 m (pc + 3) ls (.int q.1 :: rest))) : W p l e R s m args below meth c H locs cells slots Q (F0 m pc ls st0) := by
  refine va_calli (va_runS (As := As) (rest := rest) ⟨C0.1, C0.2.1, C0.2.2.1, C0.2.2.2.1, C0.2.2.2.2.1⟩ (hM H.size) ⟨sd_cwB C0 hy.1 hl hR, C0.2.2.2.2.1 _ (List.mem_cons_of_mem _ hy.2)⟩ ⟨sd_blind, sd_preU h As⟩ rfl hn hs hst (lv_room hW) hdg hf) h.2.2.2.1 (fun q _ hq => sd_free h q hq) (sd_free h) (fun r u t H1 locs1 ht hvm hp hB hz hk hS => ?_)
  subst hp
  exact kk H1 locs1 (sd_back h (ht ▸ hB.1) hB.2 hS)
theorem sd_Sv (C0 : sd_Cx own cc nL ret (k0 :: sd_big) p s m args meth c) (h : sd_Wd D cl cA nw w A s S H locs) (hy : sd_calS y bytes maxL rt n) (hl : Cond.methodLink own index y ∈ sd_big) (As : List Value) {q : St} (hM : sd_MV l D cl cA nw w y (Cond.code y bytes maxL rt :: sd_big) rm As S q) (hn : As.length = n) (hs : ls.size = nL) (hst : st0 = As.reverse ++ rest) (hW : (rest.map fun v => v.category).sum ≤ 8) (hR : sd_rm rm maxL R) (hdg : decode cc pc = .ok (.invokestatic index, 3)) (hf : cells ≤ R.cells ∧ slots ≤ R.slots)
    (kk : ∀ (H1 : Heap) (locs1 : List Loc), sd_Wd D cl cA nw w A s q H1 locs1 → W p l e R s m args below meth c H1 locs1 cells slots Q (F0 m (pc + 3) ls rest)) : W p l e R s m args below meth c H locs cells slots Q (F0 m pc ls st0) := by
  refine va_callv (va_runS (As := As) (rest := rest) ⟨C0.1, C0.2.1, C0.2.2.1, C0.2.2.2.1, C0.2.2.2.2.1⟩ (hM H.size) ⟨sd_cwB C0 hy.1 hl hR, C0.2.2.2.2.1 _ (List.mem_cons_of_mem _ hy.2)⟩ ⟨sd_blind, sd_preU h As⟩ rfl hn hs hst (lv_room hW) hdg hf) h.2.2.2.1 (fun q _ hq => sd_free h q hq) (sd_free h) (fun u t H1 locs1 ht hvm hp hB hz hk hS => ?_)
  exact kk H1 locs1 (sd_back h (ht ▸ hB.1) hB.2 hS)
theorem sd_Sl (C0 : sd_Cx own cc nL ret (k0 :: sd_big) p s m args meth c) (h : sd_Wd D cl cA nw w A s S H locs) (hy : sd_calS y bytes maxL rt n) (hl : Cond.methodLink own index y ∈ sd_big) (As : List Value) {q : Int64 × St} (hM : sd_ML l D cl cA nw w y (Cond.code y bytes maxL rt :: sd_big) rm As S q) (hn : As.length = n) (hs : ls.size = nL) (hst : st0 = As.reverse ++ rest) (hW : (rest.map fun v => v.category).sum ≤ 8) (hR : sd_rm rm maxL R) (hdg : decode cc pc = .ok (.invokestatic index, 3)) (hf : cells ≤ R.cells ∧ slots ≤ R.slots)
    (kk : ∀ (H1 : Heap) (locs1 : List Loc), sd_Wd D cl cA nw w A s q.2 H1 locs1 → W p l e R s m args below meth c H1 locs1 cells slots Q (F0 m (pc + 3) ls (.long q.1 :: rest))) : W p l e R s m args below meth c H locs cells slots Q (F0 m pc ls st0) := by
  refine va_calll (va_runS (As := As) (rest := rest) ⟨C0.1, C0.2.1, C0.2.2.1, C0.2.2.2.1, C0.2.2.2.2.1⟩ (hM H.size) ⟨sd_cwB C0 hy.1 hl hR, C0.2.2.2.2.1 _ (List.mem_cons_of_mem _ hy.2)⟩ ⟨sd_blind, sd_preU h As⟩ rfl hn hs hst (lv_room hW) hdg hf) h.2.2.2.1 (fun q _ hq => sd_free h q hq) (sd_free h) (fun r u t H1 locs1 ht hvm hp hB hz hk hS => ?_)
  subst hp
  exact kk H1 locs1 (sd_back h (ht ▸ hB.1) hB.2 hS)
/-- a private static method of a nest mate -/
theorem sd_SNl (C0 : sd_Cx own cc nL ret (k0 :: sd_big) p s m args meth c) (h : sd_Wd D cl cA nw w A s S H locs) (hy : sd_calS y bytes maxL rt n) {host : String} (hl : Cond.methodLinkNest own index y host ∈ nw) (As : List Value) {q : Int64 × St} (hM : sd_ML l D cl cA nw w y (Cond.code y bytes maxL rt :: sd_big) rm As S q) (hn : As.length = n) (hs : ls.size = nL) (hst : st0 = As.reverse ++ rest) (hW : (rest.map fun v => v.category).sum ≤ 8) (hR : sd_rm rm maxL R) (hdg : decode cc pc = .ok (.invokestatic index, 3)) (hf : cells ≤ R.cells ∧ slots ≤ R.slots)
    (kk : ∀ (H1 : Heap) (locs1 : List Loc), sd_Wd D cl cA nw w A s q.2 H1 locs1 → W p l e R s m args below meth c H1 locs1 cells slots Q (F0 m (pc + 3) ls (.long q.1 :: rest))) : W p l e R s m args below meth c H locs cells slots Q (F0 m pc ls st0) := by
  refine va_calll (va_runSN (As := As) (rest := rest) (host := host) ⟨C0.1, C0.2.1, C0.2.2.1, C0.2.2.2.1, C0.2.2.2.2.1⟩ (hM H.size) ⟨va_cnB n C0.2.2.2.2.1 (sd_goodIn hy.1.1) rfl hR.1 hR.2.1 (h.1.2 _ hl).2 (C0.2.2.2.2.1 _ (List.mem_cons_of_mem _ hy.1.2.1)) hy.1.2.2 hR.2.2, C0.2.2.2.2.1 _ (List.mem_cons_of_mem _ hy.2), trivial⟩ ⟨sd_blind, sd_preU h As⟩ rfl hn hs hst (lv_room hW) hdg hf) h.2.2.2.1 (fun q _ hq => sd_free h q hq) (sd_free h) (fun r u t H1 locs1 ht hvm hp hB hz hk hS => ?_)
  subst hp
  exact kk H1 locs1 (sd_back h (ht ▸ hB.1) hB.2 hS)
end SE
theorem ip {α : Type} {c : Prop} [Decidable c] {a b : Option α} {q : α} (h : c) (hm : (if c then a else b) = some q) : a = some q := by rw [if_pos h] at hm; exact hm
theorem iq {α : Type} {c : Prop} [Decidable c] {a b : Option α} {q : α} (h : ¬ c) (hm : (if c then a else b) = some q) : b = some q := by rw [if_neg h] at hm; exact hm
theorem dv {α : Type} {c : Prop} [Decidable c] {a : Option α} {q : α} (hm : (if c then none else a) = some q) : ¬ c ∧ a = some q := by
  by_cases h : c
  · rw [if_pos h] at hm; cases hm
  · rw [if_neg h] at hm; exact ⟨h, hm⟩
/-- a boolean's end: it is 0 or 1 -/
def zb {α : Type} (v : Int32) (x : α) : Option α := if v = 0 ∨ v = 1 then some x else none
theorem zb_some {α : Type} {v : Int32} {x q : α} (h : zb v x = some q) : narrow .boolean (.int v) = .int v ∧ x = q := by
  unfold zb at h
  split at h
  · rename_i h1
    refine ⟨?_, Option.some.inj h⟩
    rcases h1 with rfl | rfl <;> rfl
  · cases h
section SF
variable {l : Launch} {D : va_G} {cl : List vw_C} {cA : ClassId} {nw : List Cond} {w : St → va_W} {y : MethodName} {cc : ByteArray} {nL : Nat} {ret : Option FieldType} {rm : Room} {As : List Value} {S : St}
theorem sd_start {p : Program} {e : Env} {s : State} {m : MethodId} {args : Array Value} {below : List Frame} {meth : Method} {c : Code} {s₁ : State} {sz : Nat} (B : BodyLoose p l y (headSpec (Cond.code y cc nL ret :: sd_big) rm) cc nL ret e s m args below meth c s₁) (hml : c.maxLocals = nL) (hv : va_Pc As (sd_pre D cl cA nw w S sz) args s) :
    args = As.toArray ∧ sz = s.heap.size ∧ sd_Cx y.cls cc nL ret (Cond.code y cc nL ret :: sd_big) p s m args meth c ∧ sd_Wd D cl cA nw w (va_A (w S) s.heap.size) s S s.heap [] := by
  obtain ⟨ha, hsz, hK, hP, hD⟩ := hv
  exact ⟨ha, hsz.symm, ⟨B.exec, B.bytes, hml, findClass_of_methodNamed B.named, atoms_spec (ws := Cond.code y cc nL ret :: sd_big) B.pre, B.returns, B.notSynchronized⟩, hK, hP, hD.self, va_S.rf, fun q h => Or.inr h⟩
theorem sd_ofI {q : Int32 × St} (hy : plainName y.cls = true) (hn : (lg_sl As).length ≤ nL)
    (body : ∀ (p : Program) (e : Env) (s : State) (m : MethodId) (args : Array Value) (below : List Frame) (meth : Method) (c : Code) (A : Nat → Prop) (ls : Array Slot), sd_Cx y.cls cc nL ret (Cond.code y cc nL ret :: sd_big) p s m args meth c → sd_Wd D cl cA nw w A s S s.heap [] → lv_has ls nL (lv_args 0 As) → W p l e rm s m args below meth c s.heap [] 0 0 (MQ below (sd_Qi D cl w A q) args s 0 0 A) (F0 m 0 ls [])) : sd_MI l D cl cA nw w y (Cond.code y cc nL ret :: sd_big) rm As S q := by
  intro sz
  refine Met.ofW (cc := cc) (maxL := nL) (ret := ret) hy rfl ?_
  intro p e s m args below meth c s₁ B hml hv
  obtain ⟨rfl, rfl, C0, h⟩ := sd_start B hml hv
  rw [lg_entry_eq]
  exact body p e s m _ below meth c _ _ C0 h (lv_entry As hn)
theorem sd_ofL {q : Int64 × St} (hy : plainName y.cls = true) (hn : (lg_sl As).length ≤ nL)
    (body : ∀ (p : Program) (e : Env) (s : State) (m : MethodId) (args : Array Value) (below : List Frame) (meth : Method) (c : Code) (A : Nat → Prop) (ls : Array Slot), sd_Cx y.cls cc nL ret (Cond.code y cc nL ret :: sd_big) p s m args meth c → sd_Wd D cl cA nw w A s S s.heap [] → lv_has ls nL (lv_args 0 As) → W p l e rm s m args below meth c s.heap [] 0 0 (MQ below (sd_Ql D cl w A q) args s 0 0 A) (F0 m 0 ls [])) : sd_ML l D cl cA nw w y (Cond.code y cc nL ret :: sd_big) rm As S q := by
  intro sz
  refine Met.ofW (cc := cc) (maxL := nL) (ret := ret) hy rfl ?_
  intro p e s m args below meth c s₁ B hml hv
  obtain ⟨rfl, rfl, C0, h⟩ := sd_start B hml hv
  rw [lg_entry_eq]
  exact body p e s m _ below meth c _ _ C0 h (lv_entry As hn)
theorem sd_ofV {q : St} (hy : plainName y.cls = true) (hn : (lg_sl As).length ≤ nL)
    (body : ∀ (p : Program) (e : Env) (s : State) (m : MethodId) (args : Array Value) (below : List Frame) (meth : Method) (c : Code) (A : Nat → Prop) (ls : Array Slot), sd_Cx y.cls cc nL ret (Cond.code y cc nL ret :: sd_big) p s m args meth c → sd_Wd D cl cA nw w A s S s.heap [] → lv_has ls nL (lv_args 0 As) → W p l e rm s m args below meth c s.heap [] 0 0 (MQ below (sd_Qv D cl w A q) args s 0 0 A) (F0 m 0 ls [])) : sd_MV l D cl cA nw w y (Cond.code y cc nL ret :: sd_big) rm As S q := by
  intro sz
  refine Met.ofW (cc := cc) (maxL := nL) (ret := ret) hy rfl ?_
  intro p e s m args below meth c s₁ B hml hv
  obtain ⟨rfl, rfl, C0, h⟩ := sd_start B hml hv
  rw [lg_entry_eq]
  exact body p e s m _ below meth c _ _ C0 h (lv_entry As hn)
theorem sd_ofIF {q : Int32 × St} (hy : plainFor y = true) (hn : (lg_sl As).length ≤ nL)
    (body : ∀ (p : Program) (e : Env) (s : State) (m : MethodId) (args : Array Value) (below : List Frame) (meth : Method) (c : Code) (A : Nat → Prop) (ls : Array Slot), sd_Cx y.cls cc nL ret (Cond.code y cc nL ret :: sd_big) p s m args meth c → sd_Wd D cl cA nw w A s S s.heap [] → lv_has ls nL (lv_args 0 As) → W p l e rm s m args below meth c s.heap [] 0 0 (MQ below (sd_Qi D cl w A q) args s 0 0 A) (F0 m 0 ls [])) : sd_MI l D cl cA nw w y (Cond.code y cc nL ret :: sd_big) rm As S q := by
  intro sz
  refine va_MetF (cc := cc) (maxL := nL) (ret := ret) hy rfl ?_
  intro p e s m args below meth c s₁ B hml hv
  obtain ⟨rfl, rfl, C0, h⟩ := sd_start B hml hv
  rw [lg_entry_eq]
  exact body p e s m _ below meth c _ _ C0 h (lv_entry As hn)
theorem sd_ofLF {q : Int64 × St} (hy : plainFor y = true) (hn : (lg_sl As).length ≤ nL)
    (body : ∀ (p : Program) (e : Env) (s : State) (m : MethodId) (args : Array Value) (below : List Frame) (meth : Method) (c : Code) (A : Nat → Prop) (ls : Array Slot), sd_Cx y.cls cc nL ret (Cond.code y cc nL ret :: sd_big) p s m args meth c → sd_Wd D cl cA nw w A s S s.heap [] → lv_has ls nL (lv_args 0 As) → W p l e rm s m args below meth c s.heap [] 0 0 (MQ below (sd_Ql D cl w A q) args s 0 0 A) (F0 m 0 ls [])) : sd_ML l D cl cA nw w y (Cond.code y cc nL ret :: sd_big) rm As S q := by
  intro sz
  refine va_MetF (cc := cc) (maxL := nL) (ret := ret) hy rfl ?_
  intro p e s m args below meth c s₁ B hml hv
  obtain ⟨rfl, rfl, C0, h⟩ := sd_start B hml hv
  rw [lg_entry_eq]
  exact body p e s m _ below meth c _ _ C0 h (lv_entry As hn)
theorem sd_ofVF {q : St} (hy : plainFor y = true) (hn : (lg_sl As).length ≤ nL)
    (body : ∀ (p : Program) (e : Env) (s : State) (m : MethodId) (args : Array Value) (below : List Frame) (meth : Method) (c : Code) (A : Nat → Prop) (ls : Array Slot), sd_Cx y.cls cc nL ret (Cond.code y cc nL ret :: sd_big) p s m args meth c → sd_Wd D cl cA nw w A s S s.heap [] → lv_has ls nL (lv_args 0 As) → W p l e rm s m args below meth c s.heap [] 0 0 (MQ below (sd_Qv D cl w A q) args s 0 0 A) (F0 m 0 ls [])) : sd_MV l D cl cA nw w y (Cond.code y cc nL ret :: sd_big) rm As S q := by
  intro sz
  refine va_MetF (cc := cc) (maxL := nL) (ret := ret) hy rfl ?_
  intro p e s m args below meth c s₁ B hml hv
  obtain ⟨rfl, rfl, C0, h⟩ := sd_start B hml hv
  rw [lg_entry_eq]
  exact body p e s m _ below meth c _ _ C0 h (lv_entry As hn)
end SF
