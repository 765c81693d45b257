/-! The walk's frame: a judgement GV that hides the heap behind a world 'wd S' (S: the contents of the arrays and the int fields), and a row for each instruction. -/
abbrev GS : Type := Nat → Nat → Int32
def gx_set (k i : Nat) (v : Int32) (S : GS) : GS := fun b => if b = k then upd (S k) i v else S b
def gx_row (k : Nat) (f : Nat → Int32) (S : GS) : GS := fun b => if b = k then f else S b
theorem gx_set_row (k i : Nat) (v : Int32) (S : GS) : gx_set k i v S = gx_row k (upd (S k) i v) S := rfl
/-- what a method's walk stands on -/
abbrev GC (p : Program) (s : State) (m : MethodId) (args : Array Value) (c : Code) (cc : ByteArray) (nL : Nat) (own : String) (Ts : List Cond) (D : va_G) (cl : List vw_C) (tys : List (ClassId × FieldType)) (A : Nat → Prop) : Prop :=
  CallFix p m c cc nL s args Ts own ∧ va_K D cl tys s ∧ (∀ q, s.heap.size ≤ q → A q) ∧ ∀ w ∈ Ts, goodWord w = true
section GXA
variable {p : Program} {l : Launch} {e : Env} {R : Room} {s : State} {m : MethodId} {args : Array Value} {below : List Frame} {meth : Method} {c : Code} {Q : State → Prop}
variable {cc : ByteArray} {nL : Nat} {own : String} {Ts : List Cond} {D : va_G} {cl : List vw_C} {tys : List (ClassId × FieldType)} {A : Nat → Prop} {wd : GS → va_W}
/-- at the pc, with these locals and this stack, over any heap that holds the world of S: the machine comes to Q -/
def GW (nc ns : Nat) (p : Program) (l : Launch) (e : Env) (R : Room) (s : State) (m : MethodId) (args : Array Value) (below : List Frame) (meth : Method) (c : Code) (Q : State → Prop) (nL : Nat) (D : va_G) (cl : List vw_C) (A : Nat → Prop) (wd : GS → va_W) (S : GS) (pc : Nat) (L : List (Nat × Value)) (st : List Value) : Prop :=
  ∀ (H : Heap) (locs : List Loc) (ls : Array Slot), lv_has ls nL L → va_P D cl (wd S) H → va_D A (wd S) → va_S A s.heap H locs → W p l e R s m args below meth c H locs nc ns Q (F0 m pc ls st)
abbrev GV (p : Program) (l : Launch) (e : Env) (R : Room) (s : State) (m : MethodId) (args : Array Value) (below : List Frame) (meth : Method) (c : Code) (Q : State → Prop) (nL : Nat) (D : va_G) (cl : List vw_C) (A : Nat → Prop) (wd : GS → va_W) (S : GS) (pc : Nat) (L : List (Nat × Value)) (st : List Value) : Prop := GW 0 0 p l e R s m args below meth c Q nL D cl A wd S pc L st
variable {nc ns : Nat} {S : GS} {pc : Nat} {L L' : List (Nat × Value)} {st : List Value}
theorem gx_iconst (C : GC p s m args c cc nL own Ts D cl tys A) {n : Int} {v : Int32} (d : decode cc pc = .ok (.iconst n, 1)) (hv : Int32.ofInt n = v) (k : GW nc ns p l e R s m args below meth c Q nL D cl A wd S (pc + 1) L (.int v :: st)) : GW nc ns p l e R s m args below meth c Q nL D cl A wd S pc L st :=
  fun H locs ls h1 h2 h3 h4 => lv_iconst C.1.1 C.1.2.1 d hv (k H locs ls h1 h2 h3 h4)
theorem gx_bipush (C : GC p s m args c cc nL own Ts D cl tys A) {n : Int} {v : Int32} (d : decode cc pc = .ok (.bipush n, 2)) (hv : (Int8.ofInt n).toInt32 = v) (k : GW nc ns p l e R s m args below meth c Q nL D cl A wd S (pc + 2) L (.int v :: st)) : GW nc ns p l e R s m args below meth c Q nL D cl A wd S pc L st :=
  fun H locs ls h1 h2 h3 h4 => lv_bipush C.1.1 C.1.2.1 d hv (k H locs ls h1 h2 h3 h4)
theorem gx_sipush (C : GC p s m args c cc nL own Ts D cl tys A) {n : Int} {v : Int32} (d : decode cc pc = .ok (.sipush n, 3)) (hv : (Int16.ofInt n).toInt32 = v) (k : GW nc ns p l e R s m args below meth c Q nL D cl A wd S (pc + 3) L (.int v :: st)) : GW nc ns p l e R s m args below meth c Q nL D cl A wd S pc L st :=
  fun H locs ls h1 h2 h3 h4 => lv_sipush C.1.1 C.1.2.1 d hv (k H locs ls h1 h2 h3 h4)
theorem gx_iload_n (C : GC p s m args c cc nL own Ts D cl tys A) {f : Fin 4} {i : Nat} {x : Int32} (d : decode cc pc = .ok (.iload_n f, 1)) (j : Nat) (hf : (f : Nat) = i) (hj : L[j]? = some (i, .int x)) (k : GW nc ns p l e R s m args below meth c Q nL D cl A wd S (pc + 1) L (.int x :: st)) : GW nc ns p l e R s m args below meth c Q nL D cl A wd S pc L st :=
  fun H locs ls h1 h2 h3 h4 => lv_iload_n C.1.1 C.1.2.1 d hf (lv_at h1 j hj) (k H locs ls h1 h2 h3 h4)
theorem gx_iload (C : GC p s m args c cc nL own Ts D cl tys A) {i : Nat} {x : Int32} (d : decode cc pc = .ok (.iload i, 2)) (j : Nat) (hj : L[j]? = some (i, .int x)) (k : GW nc ns p l e R s m args below meth c Q nL D cl A wd S (pc + 2) L (.int x :: st)) : GW nc ns p l e R s m args below meth c Q nL D cl A wd S pc L st :=
  fun H locs ls h1 h2 h3 h4 => lv_iload C.1.1 C.1.2.1 d (lv_at h1 j hj) (k H locs ls h1 h2 h3 h4)
theorem gx_aload_n (C : GC p s m args c cc nL own Ts D cl tys A) {f : Fin 4} {i x : Nat} (d : decode cc pc = .ok (.aload_n f, 1)) (j : Nat) (hf : (f : Nat) = i) (hj : L[j]? = some (i, .ref x)) (k : GW nc ns p l e R s m args below meth c Q nL D cl A wd S (pc + 1) L (.ref x :: st)) : GW nc ns p l e R s m args below meth c Q nL D cl A wd S pc L st :=
  fun H locs ls h1 h2 h3 h4 => lv_aload_n C.1.1 C.1.2.1 d hf (lv_at h1 j hj) (k H locs ls h1 h2 h3 h4)
theorem gx_istore_n (C : GC p s m args c cc nL own Ts D cl tys A) {f : Fin 4} {i : Nat} {x : Int32} (d : decode cc pc = .ok (.istore_n f, 1)) (hf : (f : Nat) = i) (hn : i < nL) (hl : (i, Value.int x) :: L.filter (fun q => !(q.1 == i) && !(q.1 + 1 == i && q.2.category == 2)) = L') (k : GW nc ns p l e R s m args below meth c Q nL D cl A wd S (pc + 1) L' st) : GW nc ns p l e R s m args below meth c Q nL D cl A wd S pc L (.int x :: st) :=
  fun H locs _ h1 h2 h3 h4 => lv_istore_n C.1.1 C.1.2.1 d hf h1 hn hl (fun ls' h' => k H locs ls' h' h2 h3 h4)
theorem gx_istore (C : GC p s m args c cc nL own Ts D cl tys A) {i : Nat} {x : Int32} (d : decode cc pc = .ok (.istore i, 2)) (hn : i < nL) (hl : (i, Value.int x) :: L.filter (fun q => !(q.1 == i) && !(q.1 + 1 == i && q.2.category == 2)) = L') (k : GW nc ns p l e R s m args below meth c Q nL D cl A wd S (pc + 2) L' st) : GW nc ns p l e R s m args below meth c Q nL D cl A wd S pc L (.int x :: st) :=
  fun H locs _ h1 h2 h3 h4 => lv_istore C.1.1 C.1.2.1 d h1 hn hl (fun ls' h' => k H locs ls' h' h2 h3 h4)
theorem gx_iinc (C : GC p s m args c cc nL own Ts D cl tys A) {i : Nat} {n : Int} {x v0 : Int32} {f : Int32 → List (Nat × Value)} (d : decode cc pc = .ok (.iinc i n, 3)) (j : Nat) (hj : L[j]? = some (i, .int x)) (hv : Int32.ofInt n = v0) (hn : i < nL) (hl : ∀ v : Int32, (i, Value.int v) :: L.filter (fun q => !(q.1 == i) && !(q.1 + 1 == i && q.2.category == 2)) = f v) (k : ∀ v : Int32, v = x + v0 → GW nc ns p l e R s m args below meth c Q nL D cl A wd S (pc + 3) (f v) st) : GW nc ns p l e R s m args below meth c Q nL D cl A wd S pc L st :=
  fun H locs _ h1 h2 h3 h4 => lv_iinc C.1.1 C.1.2.1 d h1 hj (v := x + v0) (by rw [hv]) hn (hl _) (fun ls' h' => k _ rfl H locs ls' h' h2 h3 h4)
/-- a name for the number on top -/
theorem gx_top {x : Int32} (k : ∀ v : Int32, v = x → GW nc ns p l e R s m args below meth c Q nL D cl A wd S pc L (.int v :: st)) : GW nc ns p l e R s m args below meth c Q nL D cl A wd S pc L (.int x :: st) := k x rfl
/-- fewer locals, in another order -/
theorem gx_sub (ks : List Nat) (hl : lv_pick L ks = L') (k : GW nc ns p l e R s m args below meth c Q nL D cl A wd S pc L' st) : GW nc ns p l e R s m args below meth c Q nL D cl A wd S pc L st :=
  fun H locs ls h1 h2 h3 h4 => k H locs ls (lv_sub h1 ks hl) h2 h3 h4
theorem gx_iadd (C : GC p s m args c cc nL own Ts D cl tys A) {x y : Int32} (d : decode cc pc = .ok (.iadd, 1)) (k : GW nc ns p l e R s m args below meth c Q nL D cl A wd S (pc + 1) L (.int (x + y) :: st)) : GW nc ns p l e R s m args below meth c Q nL D cl A wd S pc L (.int y :: .int x :: st) :=
  fun H locs ls h1 h2 h3 h4 => lv_iadd C.1.1 C.1.2.1 d (k H locs ls h1 h2 h3 h4)
theorem gx_isub (C : GC p s m args c cc nL own Ts D cl tys A) {x y : Int32} (d : decode cc pc = .ok (.isub, 1)) (k : GW nc ns p l e R s m args below meth c Q nL D cl A wd S (pc + 1) L (.int (x - y) :: st)) : GW nc ns p l e R s m args below meth c Q nL D cl A wd S pc L (.int y :: .int x :: st) :=
  fun H locs ls h1 h2 h3 h4 => lv_isub C.1.1 C.1.2.1 d (k H locs ls h1 h2 h3 h4)
theorem gx_imul (C : GC p s m args c cc nL own Ts D cl tys A) {x y : Int32} (d : decode cc pc = .ok (.imul, 1)) (k : GW nc ns p l e R s m args below meth c Q nL D cl A wd S (pc + 1) L (.int (x * y) :: st)) : GW nc ns p l e R s m args below meth c Q nL D cl A wd S pc L (.int y :: .int x :: st) :=
  fun H locs ls h1 h2 h3 h4 => lv_imul C.1.1 C.1.2.1 d (k H locs ls h1 h2 h3 h4)
theorem gx_iand (C : GC p s m args c cc nL own Ts D cl tys A) {x y : Int32} (d : decode cc pc = .ok (.iand, 1)) (k : GW nc ns p l e R s m args below meth c Q nL D cl A wd S (pc + 1) L (.int (x &&& y) :: st)) : GW nc ns p l e R s m args below meth c Q nL D cl A wd S pc L (.int y :: .int x :: st) :=
  fun H locs ls h1 h2 h3 h4 => lv_iand C.1.1 C.1.2.1 d (k H locs ls h1 h2 h3 h4)
theorem gx_idiv (C : GC p s m args c cc nL own Ts D cl tys A) {x y : Int32} (d : decode cc pc = .ok (.idiv, 1)) (hy : ¬ y = 0) (k : GW nc ns p l e R s m args below meth c Q nL D cl A wd S (pc + 1) L (.int (x / y) :: st)) : GW nc ns p l e R s m args below meth c Q nL D cl A wd S pc L (.int y :: .int x :: st) :=
  fun H locs ls h1 h2 h3 h4 => lv_idiv C.1.1 C.1.2.1 d hy (k H locs ls h1 h2 h3 h4)
theorem gx_irem (C : GC p s m args c cc nL own Ts D cl tys A) {x y : Int32} (d : decode cc pc = .ok (.irem, 1)) (hy : ¬ y = 0) (k : GW nc ns p l e R s m args below meth c Q nL D cl A wd S (pc + 1) L (.int (x - x / y * y) :: st)) : GW nc ns p l e R s m args below meth c Q nL D cl A wd S pc L (.int y :: .int x :: st) :=
  fun H locs ls h1 h2 h3 h4 => lv_irem C.1.1 C.1.2.1 d hy (k H locs ls h1 h2 h3 h4)
theorem gx_dup (C : GC p s m args c cc nL own Ts D cl tys A) {x : Value} (d : decode cc pc = .ok (.dup, 1)) (hx : x.category = 1) (k : GW nc ns p l e R s m args below meth c Q nL D cl A wd S (pc + 1) L (x :: x :: st)) : GW nc ns p l e R s m args below meth c Q nL D cl A wd S pc L (x :: st) :=
  fun H locs ls h1 h2 h3 h4 => lv_dup C.1.1 C.1.2.1 d hx (k H locs ls h1 h2 h3 h4)
theorem gx_dup2 (C : GC p s m args c cc nL own Ts D cl tys A) {x y : Value} (d : decode cc pc = .ok (.dup2, 1)) (hx : x.category = 1) (hy : y.category = 1) (k : GW nc ns p l e R s m args below meth c Q nL D cl A wd S (pc + 1) L (x :: y :: x :: y :: st)) : GW nc ns p l e R s m args below meth c Q nL D cl A wd S pc L (x :: y :: st) :=
  fun H locs ls h1 h2 h3 h4 => lv_dup2_11 C.1.1 C.1.2.1 d hx hy (k H locs ls h1 h2 h3 h4)
theorem gx_dup_x1 (C : GC p s m args c cc nL own Ts D cl tys A) {x y : Value} (d : decode cc pc = .ok (.dup_x1, 1)) (hx : x.category = 1) (hy : y.category = 1) (k : GW nc ns p l e R s m args below meth c Q nL D cl A wd S (pc + 1) L (x :: y :: x :: st)) : GW nc ns p l e R s m args below meth c Q nL D cl A wd S pc L (x :: y :: st) :=
  fun H locs ls h1 h2 h3 h4 => lv_dup_x1 C.1.1 C.1.2.1 d hx hy (k H locs ls h1 h2 h3 h4)
theorem gx_pop (C : GC p s m args c cc nL own Ts D cl tys A) {x : Value} (d : decode cc pc = .ok (.pop, 1)) (hx : x.category = 1) (k : GW nc ns p l e R s m args below meth c Q nL D cl A wd S (pc + 1) L st) : GW nc ns p l e R s m args below meth c Q nL D cl A wd S pc L (x :: st) :=
  fun H locs ls h1 h2 h3 h4 => lv_pop C.1.1 C.1.2.1 d hx (k H locs ls h1 h2 h3 h4)
theorem gx_goto (C : GC p s m args c cc nL own Ts D cl tys A) {off : Int} (d : decode cc pc = .ok (.goto off, 3)) (tgt : Nat) (ht : (pc : Int) + off = (tgt : Int)) (k : GW nc ns p l e R s m args below meth c Q nL D cl A wd S tgt L st) : GW nc ns p l e R s m args below meth c Q nL D cl A wd S pc L st :=
  fun H locs ls h1 h2 h3 h4 => lv_goto C.1.1 C.1.2.1 d ht (k H locs ls h1 h2 h3 h4)
theorem gx_if_eq (C : GC p s m args c cc nL own Ts D cl tys A) {x : Int32} {off : Int} (d : decode cc pc = .ok (.ifCond .eq off, 3)) (tgt : Nat) (ht : (pc : Int) + off = (tgt : Int)) (kt : x = 0 → GW nc ns p l e R s m args below meth c Q nL D cl A wd S tgt L st) (kf : ¬ x = 0 → GW nc ns p l e R s m args below meth c Q nL D cl A wd S (pc + 3) L st) : GW nc ns p l e R s m args below meth c Q nL D cl A wd S pc L (.int x :: st) :=
  fun H locs ls h1 h2 h3 h4 => lv_if_eq C.1.1 C.1.2.1 d ht (fun q => kt q H locs ls h1 h2 h3 h4) (fun q => kf q H locs ls h1 h2 h3 h4)
theorem gx_icmp_eq (C : GC p s m args c cc nL own Ts D cl tys A) {x y : Int32} {off : Int} (d : decode cc pc = .ok (.if_icmp .eq off, 3)) (tgt : Nat) (ht : (pc : Int) + off = (tgt : Int)) (kt : x = y → GW nc ns p l e R s m args below meth c Q nL D cl A wd S tgt L st) (kf : ¬ x = y → GW nc ns p l e R s m args below meth c Q nL D cl A wd S (pc + 3) L st) : GW nc ns p l e R s m args below meth c Q nL D cl A wd S pc L (.int y :: .int x :: st) :=
  fun H locs ls h1 h2 h3 h4 => lv_icmp_eq C.1.1 C.1.2.1 d ht (fun q => kt q H locs ls h1 h2 h3 h4) (fun q => kf q H locs ls h1 h2 h3 h4)
theorem gx_if_ne (C : GC p s m args c cc nL own Ts D cl tys A) {x : Int32} {off : Int} (d : decode cc pc = .ok (.ifCond .ne off, 3)) (tgt : Nat) (ht : (pc : Int) + off = (tgt : Int)) (kt : ¬ x = 0 → GW nc ns p l e R s m args below meth c Q nL D cl A wd S tgt L st) (kf : x = 0 → GW nc ns p l e R s m args below meth c Q nL D cl A wd S (pc + 3) L st) : GW nc ns p l e R s m args below meth c Q nL D cl A wd S pc L (.int x :: st) :=
  fun H locs ls h1 h2 h3 h4 => lv_if_ne C.1.1 C.1.2.1 d ht (fun q => kt q H locs ls h1 h2 h3 h4) (fun q => kf q H locs ls h1 h2 h3 h4)
theorem gx_icmp_ne (C : GC p s m args c cc nL own Ts D cl tys A) {x y : Int32} {off : Int} (d : decode cc pc = .ok (.if_icmp .ne off, 3)) (tgt : Nat) (ht : (pc : Int) + off = (tgt : Int)) (kt : ¬ x = y → GW nc ns p l e R s m args below meth c Q nL D cl A wd S tgt L st) (kf : x = y → GW nc ns p l e R s m args below meth c Q nL D cl A wd S (pc + 3) L st) : GW nc ns p l e R s m args below meth c Q nL D cl A wd S pc L (.int y :: .int x :: st) :=
  fun H locs ls h1 h2 h3 h4 => lv_icmp_ne C.1.1 C.1.2.1 d ht (fun q => kt q H locs ls h1 h2 h3 h4) (fun q => kf q H locs ls h1 h2 h3 h4)
theorem gx_if_lt (C : GC p s m args c cc nL own Ts D cl tys A) {x : Int32} {off : Int} (d : decode cc pc = .ok (.ifCond .lt off, 3)) (tgt : Nat) (ht : (pc : Int) + off = (tgt : Int)) (kt : x < 0 → GW nc ns p l e R s m args below meth c Q nL D cl A wd S tgt L st) (kf : ¬ x < 0 → GW nc ns p l e R s m args below meth c Q nL D cl A wd S (pc + 3) L st) : GW nc ns p l e R s m args below meth c Q nL D cl A wd S pc L (.int x :: st) :=
  fun H locs ls h1 h2 h3 h4 => lv_if_lt C.1.1 C.1.2.1 d ht (fun q => kt q H locs ls h1 h2 h3 h4) (fun q => kf q H locs ls h1 h2 h3 h4)
theorem gx_icmp_lt (C : GC p s m args c cc nL own Ts D cl tys A) {x y : Int32} {off : Int} (d : decode cc pc = .ok (.if_icmp .lt off, 3)) (tgt : Nat) (ht : (pc : Int) + off = (tgt : Int)) (kt : x < y → GW nc ns p l e R s m args below meth c Q nL D cl A wd S tgt L st) (kf : ¬ x < y → GW nc ns p l e R s m args below meth c Q nL D cl A wd S (pc + 3) L st) : GW nc ns p l e R s m args below meth c Q nL D cl A wd S pc L (.int y :: .int x :: st) :=
  fun H locs ls h1 h2 h3 h4 => lv_icmp_lt C.1.1 C.1.2.1 d ht (fun q => kt q H locs ls h1 h2 h3 h4) (fun q => kf q H locs ls h1 h2 h3 h4)
theorem gx_if_ge (C : GC p s m args c cc nL own Ts D cl tys A) {x : Int32} {off : Int} (d : decode cc pc = .ok (.ifCond .ge off, 3)) (tgt : Nat) (ht : (pc : Int) + off = (tgt : Int)) (kt : 0 ≤ x → GW nc ns p l e R s m args below meth c Q nL D cl A wd S tgt L st) (kf : ¬ 0 ≤ x → GW nc ns p l e R s m args below meth c Q nL D cl A wd S (pc + 3) L st) : GW nc ns p l e R s m args below meth c Q nL D cl A wd S pc L (.int x :: st) :=
  fun H locs ls h1 h2 h3 h4 => lv_if_ge C.1.1 C.1.2.1 d ht (fun q => kt q H locs ls h1 h2 h3 h4) (fun q => kf q H locs ls h1 h2 h3 h4)
theorem gx_icmp_ge (C : GC p s m args c cc nL own Ts D cl tys A) {x y : Int32} {off : Int} (d : decode cc pc = .ok (.if_icmp .ge off, 3)) (tgt : Nat) (ht : (pc : Int) + off = (tgt : Int)) (kt : y ≤ x → GW nc ns p l e R s m args below meth c Q nL D cl A wd S tgt L st) (kf : ¬ y ≤ x → GW nc ns p l e R s m args below meth c Q nL D cl A wd S (pc + 3) L st) : GW nc ns p l e R s m args below meth c Q nL D cl A wd S pc L (.int y :: .int x :: st) :=
  fun H locs ls h1 h2 h3 h4 => lv_icmp_ge C.1.1 C.1.2.1 d ht (fun q => kt q H locs ls h1 h2 h3 h4) (fun q => kf q H locs ls h1 h2 h3 h4)
theorem gx_if_gt (C : GC p s m args c cc nL own Ts D cl tys A) {x : Int32} {off : Int} (d : decode cc pc = .ok (.ifCond .gt off, 3)) (tgt : Nat) (ht : (pc : Int) + off = (tgt : Int)) (kt : 0 < x → GW nc ns p l e R s m args below meth c Q nL D cl A wd S tgt L st) (kf : ¬ 0 < x → GW nc ns p l e R s m args below meth c Q nL D cl A wd S (pc + 3) L st) : GW nc ns p l e R s m args below meth c Q nL D cl A wd S pc L (.int x :: st) :=
  fun H locs ls h1 h2 h3 h4 => lv_if_gt C.1.1 C.1.2.1 d ht (fun q => kt q H locs ls h1 h2 h3 h4) (fun q => kf q H locs ls h1 h2 h3 h4)
theorem gx_icmp_gt (C : GC p s m args c cc nL own Ts D cl tys A) {x y : Int32} {off : Int} (d : decode cc pc = .ok (.if_icmp .gt off, 3)) (tgt : Nat) (ht : (pc : Int) + off = (tgt : Int)) (kt : y < x → GW nc ns p l e R s m args below meth c Q nL D cl A wd S tgt L st) (kf : ¬ y < x → GW nc ns p l e R s m args below meth c Q nL D cl A wd S (pc + 3) L st) : GW nc ns p l e R s m args below meth c Q nL D cl A wd S pc L (.int y :: .int x :: st) :=
  fun H locs ls h1 h2 h3 h4 => lv_icmp_gt C.1.1 C.1.2.1 d ht (fun q => kt q H locs ls h1 h2 h3 h4) (fun q => kf q H locs ls h1 h2 h3 h4)
theorem gx_if_le (C : GC p s m args c cc nL own Ts D cl tys A) {x : Int32} {off : Int} (d : decode cc pc = .ok (.ifCond .le off, 3)) (tgt : Nat) (ht : (pc : Int) + off = (tgt : Int)) (kt : x ≤ 0 → GW nc ns p l e R s m args below meth c Q nL D cl A wd S tgt L st) (kf : ¬ x ≤ 0 → GW nc ns p l e R s m args below meth c Q nL D cl A wd S (pc + 3) L st) : GW nc ns p l e R s m args below meth c Q nL D cl A wd S pc L (.int x :: st) :=
  fun H locs ls h1 h2 h3 h4 => lv_if_le C.1.1 C.1.2.1 d ht (fun q => kt q H locs ls h1 h2 h3 h4) (fun q => kf q H locs ls h1 h2 h3 h4)
theorem gx_icmp_le (C : GC p s m args c cc nL own Ts D cl tys A) {x y : Int32} {off : Int} (d : decode cc pc = .ok (.if_icmp .le off, 3)) (tgt : Nat) (ht : (pc : Int) + off = (tgt : Int)) (kt : x ≤ y → GW nc ns p l e R s m args below meth c Q nL D cl A wd S tgt L st) (kf : ¬ x ≤ y → GW nc ns p l e R s m args below meth c Q nL D cl A wd S (pc + 3) L st) : GW nc ns p l e R s m args below meth c Q nL D cl A wd S pc L (.int y :: .int x :: st) :=
  fun H locs ls h1 h2 h3 h4 => lv_icmp_le C.1.1 C.1.2.1 d ht (fun q => kt q H locs ls h1 h2 h3 h4) (fun q => kf q H locs ls h1 h2 h3 h4)
/-! an array of the world: place q, address a, row k of S, n long -/
def GA (wd : GS → va_W) (tys : List (ClassId × FieldType)) (q a k n : Nat) (ty : FieldType) : Prop :=
  ∃ (cA : ClassId) (t0 : Nat), (∀ S : GS, (wd S)[q]? = some (a, .inl (cA, n, .inl (S k)))) ∧ (∀ (S : GS) (f : Nat → Int32), (wd S).set q (a, .inl (cA, n, .inl f)) = wd (gx_row k f S)) ∧ tys[t0]? = some (cA, ty)
theorem gx_iald (C : GC p s m args c cc nL own Ts D cl tys A) {q a k n : Nat} (h : GA wd tys q a k n .int) {i : Int32} (hin : vp_in i n) (d : decode cc pc = .ok (.iaload, 1)) (kk : GW nc ns p l e R s m args below meth c Q nL D cl A wd S (pc + 1) L (.int (S k i.toNatClampNeg) :: st)) : GW nc ns p l e R s m args below meth c Q nL D cl A wd S pc L (.int i :: .ref a :: st) := by
  obtain ⟨cA, t0, h5, h6, h7⟩ := h
  exact fun H locs ls h1 h2 h3 h4 => va_iald C.1.1 C.1.2.1 C.2.1 h2 q t0 (h5 S) h7 hin d (kk H locs ls h1 h2 h3 h4)
theorem gx_zald (C : GC p s m args c cc nL own Ts D cl tys A) {q a k n : Nat} (h : GA wd tys q a k n .boolean) {i : Int32} (hin : vp_in i n) (d : decode cc pc = .ok (.baload, 1)) (kk : GW nc ns p l e R s m args below meth c Q nL D cl A wd S (pc + 1) L (.int (S k i.toNatClampNeg) :: st)) : GW nc ns p l e R s m args below meth c Q nL D cl A wd S pc L (.int i :: .ref a :: st) := by
  obtain ⟨cA, t0, h5, h6, h7⟩ := h
  exact fun H locs ls h1 h2 h3 h4 => va_zald C.1.1 C.1.2.1 C.2.1 h2 q t0 (h5 S) h7 hin d (kk H locs ls h1 h2 h3 h4)
theorem gx_iast (C : GC p s m args c cc nL own Ts D cl tys A) {q a k n : Nat} (h : GA wd tys q a k n .int) {i x : Int32} (hin : vp_in i n) (d : decode cc pc = .ok (.iastore, 1)) (kk : ∀ S1 : GS, S1 = gx_set k i.toNatClampNeg x S → GW nc ns p l e R s m args below meth c Q nL D cl A wd S1 (pc + 1) L st) : GW nc ns p l e R s m args below meth c Q nL D cl A wd S pc L (.int x :: .int i :: .ref a :: st) := by
  obtain ⟨cA, t0, h5, h6, h7⟩ := h
  intro H locs ls h1 h2 h3 h4
  refine va_iast C.1.1 C.1.2.1 C.2.1 h2 h3 h4 q t0 (h5 S) h7 hin d (fun H1 locs1 g2 g3 g4 => ?_)
  rw [h6 S] at g2 g3
  exact kk _ rfl H1 locs1 ls h1 g2 g3 g4
theorem gx_zast (C : GC p s m args c cc nL own Ts D cl tys A) {q a k n : Nat} (h : GA wd tys q a k n .boolean) {i x : Int32} (hin : vp_in i n) (hx : vp_nar .boolean x = x) (d : decode cc pc = .ok (.bastore, 1)) (kk : ∀ S1 : GS, S1 = gx_set k i.toNatClampNeg x S → GW nc ns p l e R s m args below meth c Q nL D cl A wd S1 (pc + 1) L st) : GW nc ns p l e R s m args below meth c Q nL D cl A wd S pc L (.int x :: .int i :: .ref a :: st) := by
  obtain ⟨cA, t0, h5, h6, h7⟩ := h
  intro H locs ls h1 h2 h3 h4
  refine va_zast C.1.1 C.1.2.1 C.2.1 h2 h3 h4 q t0 (h5 S) h7 hin d (fun H1 locs1 g2 g3 g4 => ?_)
  rw [hx, h6 S] at g2 g3
  exact kk _ rfl H1 locs1 ls h1 g2 g3 g4
theorem gx_alen (C : GC p s m args c cc nL own Ts D cl tys A) {q a k n : Nat} {ty : FieldType} (h : GA wd tys q a k n ty) (d : decode cc pc = .ok (.arraylength, 1)) (kk : GW nc ns p l e R s m args below meth c Q nL D cl A wd S (pc + 1) L (.int (nI n) :: st)) : GW nc ns p l e R s m args below meth c Q nL D cl A wd S pc L (.ref a :: st) := by
  obtain ⟨cA, t0, h5, h6, h7⟩ := h
  exact fun H locs ls h1 h2 h3 h4 => va_alen C.1.1 C.1.2.1 C.2.1 h2 q t0 (h5 S) h7 (v := nI n) rfl d (kk H locs ls h1 h2 h3 h4)
/-- System.arraycopy within one int array -/
theorem gx_copy (C : GC p s m args c cc nL own Ts D cl tys A) {q a k n index : Nat} (h : GA wd tys q a k n .int) (hlink : Cond.methodLink own index arraycopyName ∈ Ts) (hnat : Cond.native arraycopyName ∈ Ts) (hstat : Cond.static arraycopyName ∈ Ts) (hini : Cond.initialized "java/lang/System" ∈ Ts) {sp dp nn : Int32} (h1 : ¬ sp < 0) (h2 : ¬ dp < 0) (h3 : ¬ nn < 0) (h4 : sp.toNatClampNeg + nn.toNatClampNeg ≤ n) (h5 : dp.toNatClampNeg + nn.toNatClampNeg ≤ n) (hframes : 1 ≤ R.frames) (hlocals : (st.map fun v => v.category).sum + (nativeFrameWords "java/lang/System" "arraycopy" 5 + 11) ≤ R.locals) (d : decode cc pc = .ok (.invokestatic index, 3)) (kk : ∀ S1 : GS, S1 = gx_row k (va_cpy (S k) (S k) sp.toNatClampNeg dp.toNatClampNeg nn.toNatClampNeg) S → GW nc ns p l e R s m args below meth c Q nL D cl A wd S1 (pc + 3) L st) : GW nc ns p l e R s m args below meth c Q nL D cl A wd S pc L (.int nn :: .int dp :: .ref a :: .int sp :: .ref a :: st) := by
  obtain ⟨cA, t0, h6, h7, h8⟩ := h
  intro H locs ls g1 g2 g3 g4
  refine va_copyi C.1.1 C.1.2.1 (C.1.2.2.1.trans g1.1.symm) C.1.2.2.2.1 (C.1.2.2.2.2 _ hlink) (C.1.2.2.2.2 _ hnat) (C.1.2.2.2.2 _ hstat) (C.1.2.2.2.2 _ hini) C.2.1 g2 g3 g4 q q t0 t0 (h6 S) (h6 S) h8 h8 rfl h1 h2 h3 h4 h5 (fun _ _ => rfl) hframes hlocals d (fun H1 locs1 e2 e3 e4 => ?_)
  rw [h7 S] at e2 e3
  exact kk _ rfl H1 locs1 ls g1 e2 e3 e4
/-! an object of the world -/
def GO (wd : GS → va_W) (cl : List vw_C) (q a ci : Nat) (Cn : String) (T : u_T) (N : Nat) (fs : GS → List Value) : Prop :=
  (∀ S : GS, (wd S)[q]? = some (a, .inr (ci, fs S))) ∧ cl[ci]? = some (Cn, T, N)
theorem gx_get (C : GC p s m args c cc nL own Ts D cl tys A) {q a ci N : Nat} {Cn : String} {T : u_T} {fs : GS → List Value} (h : GO wd cl q a ci Cn T N fs) (hin : ∀ w ∈ u_ws Cn T N, w ∈ Ts) {index : Nat} (k : Nat) (hk : k < N) (hlink : Cond.fieldLink own index (T k).1 (T k).2.1 (T k).2.2.1 ∈ Ts) {v : Value} (hv : (fs S)[k]? = some v) (d : decode cc pc = .ok (.getfield index, 3)) (kk : GW nc ns p l e R s m args below meth c Q nL D cl A wd S (pc + 3) L (v :: st)) : GW nc ns p l e R s m args below meth c Q nL D cl A wd S pc L (.ref a :: st) :=
  fun H locs ls h1 h2 h3 h4 => va_get C.1.1 C.1.2.1 C.1.2.2.2.2 hin C.1.2.2.2.1 C.2.1 h2 q (h.1 S) h.2 k hk (C.1.2.2.2.2 _ hlink) (fun _ h9 => h9) hv d (kk H locs ls h1 h2 h3 h4)
theorem gx_put (C : GC p s m args c cc nL own Ts D cl tys A) {q a ci N : Nat} {Cn : String} {T : u_T} {fs : GS → List Value} (h : GO wd cl q a ci Cn T N fs) (hin : ∀ w ∈ u_ws Cn T N, w ∈ Ts) (ty0 : Nat → FieldType) (hty : ∀ k, k < N → parseFieldDescriptor (T k).2.2.1 = some (ty0 k)) (hnm : ∀ a, a < N → ∀ b, b < N → a ≠ b → (T a).2.1 ≠ (T b).2.1) {index : Nat} (k : Nat) (hk : k < N) (hlink : Cond.fieldLink own index (T k).1 (T k).2.1 (T k).2.2.1 ∈ Ts) (hfin : (T k).2.2.2 = false) (hd : parseFieldDescriptor (T k).2.2.1 = some .int) (hl : k < (fs S).length) {v : Int32} {j : Nat} (hw : (wd S).set q (a, .inr (ci, (fs S).set k (.int v))) = wd (gx_set 100 j v S)) (d : decode cc pc = .ok (.putfield index, 3)) (kk : ∀ S1 : GS, S1 = gx_set 100 j v S → GW nc ns p l e R s m args below meth c Q nL D cl A wd S1 (pc + 3) L st) : GW nc ns p l e R s m args below meth c Q nL D cl A wd S pc L (.int v :: .ref a :: st) := by
  intro H locs ls h1 h2 h3 h4
  refine va_put C.1.1 C.1.2.1 C.1.2.2.2.2 hin ty0 hty hnm C.1.2.2.2.1 C.2.1 h2 h3 h4 q (h.1 S) h.2 k hk (C.1.2.2.2.2 _ hlink) (fun _ h9 => h9) hfin (ty := .int) (v := .int v) hd rfl rfl hl d (fun H1 locs1 g2 g3 g4 => ?_)
  rw [hw] at g2 g3
  exact kk _ rfl H1 locs1 ls h1 g2 g3 g4
/-! contracts over a world: the answer and the new contents by a postcondition -/
abbrev GP (wd : GS → va_W) (D : va_G) (cl : List vw_C) (tys : List (ClassId × FieldType)) (S : GS) (sz : Nat) : State → Prop := fun U => U.heap.size = sz ∧ va_P D cl (wd S) U.heap ∧ va_K D cl tys U ∧ va_D (fun _ => True) (wd S)
abbrev GB (wd : GS → va_W) (D : va_G) (cl : List vw_C) (tys : List (ClassId × FieldType)) (A : Nat → Prop) : GS → State → Prop := fun S t => va_P D cl (wd S) t.heap ∧ va_K D cl tys t ∧ va_D A (wd S)
def MetI (l : Launch) (y : MethodName) (ws : List Cond) (rm : Room) (D : va_G) (cl : List vw_C) (tys : List (ClassId × FieldType)) (wd : GS → va_W) (av : List Value) (S : GS) (post : Int32 → GS → Prop) : Prop :=
  ∀ sz : Nat, Met l y ws rm (va_Pc av (GP wd D cl tys S sz)) (va_Qi post (GB wd D cl tys (va_A (wd S) sz)) (va_A (wd S) sz)) 0 0 (va_A (wd S) sz)
def MetV (l : Launch) (y : MethodName) (ws : List Cond) (rm : Room) (D : va_G) (cl : List vw_C) (tys : List (ClassId × FieldType)) (wd : GS → va_W) (av : List Value) (S : GS) (post : GS → Prop) : Prop :=
  ∀ sz : Nat, Met l y ws rm (va_Pc av (GP wd D cl tys S sz)) (va_Qv post (GB wd D cl tys (va_A (wd S) sz)) (va_A (wd S) sz)) 0 0 (va_A (wd S) sz)
theorem gx_blind {av : List Value} {sz : Nat} : FrameBlind (va_Pc av (GP wd D cl tys S sz)) := fun a U g mk q => by
  obtain ⟨q0, q1, qP, qK, qD⟩ := q
  exact ⟨q0, q1, qP, va_K.moved (u := U) (U := U.calling g mk a) (Vm.Alike.refl U.vm) qK, qD⟩
theorem gx_D {A : Nat → Prop} {w1 w2 : va_W} (he : w2.map (fun q => q.1) = w1.map (fun q => q.1)) (h : va_D A w1) : va_D A w2 := by
  have key : ∀ (k : Nat) (q : Nat × va_E), w2[k]? = some q → ∃ q0, w1[k]? = some q0 ∧ q0.1 = q.1 := by
    intro k q hk
    have h1 : (w2.map (fun q => q.1))[k]? = some q.1 := by rw [List.getElem?_map, hk]; rfl
    rw [he, List.getElem?_map] at h1
    cases h2 : w1[k]? with
    | none => rw [h2] at h1; cases h1
    | some q0 => rw [h2] at h1; exact ⟨q0, rfl, Option.some.inj h1⟩
  refine ⟨fun i j x y hi hj hxy => ?_, fun k q hk => ?_⟩
  · obtain ⟨x0, a1, a2⟩ := key i x hi
    obtain ⟨y0, b1, b2⟩ := key j y hj
    exact h.1 i j x0 y0 a1 b1 (a2.trans (hxy.trans b2.symm))
  · obtain ⟨q0, a1, a2⟩ := key k q hk
    rw [← a2]; exact h.2 k q0 a1
theorem gx_free (C : GC p s m args c cc nL own Ts D cl tys A) {H : Heap} {locs : List Loc} (h3 : va_D A (wd S)) (h4 : va_S A s.heap H locs) : ∀ q, va_A (wd S) H.size q → A q := by
  intro q h
  rcases h with ⟨k, e, hk⟩ | hq
  · exact h3.2 k _ hk
  · exact C.2.2.1 q (Nat.le_trans h4.1 hq)
theorem gx_good (hg : ∀ w ∈ Ts, goodWord w = true) {L : List Cond} (h : ∀ w ∈ L, w ∈ Ts) : GoodIn Ts L := fun w hw => ⟨h w hw, good_of_word (hg w (h w hw))⟩
theorem gx_cwV (C : GC p s m args c cc nL own Ts D cl tys A) {y : MethodName} {bytes : ByteArray} {maxL index : Nat} {ret : Option FieldType} {rm : Room} {Cn : String} (n : Nat) (h1 : Cond.methodLink own index y ∈ Ts) (h2 : Cond.instanceMethod y ∈ Ts) (h3 : Cond.selects Cn y y ∈ Ts) (h4 : Cond.initialized Cn ∈ Ts) (h5 : Cond.code y bytes maxL ret ∈ Ts) (hrc : rm.cells = 0) (hrs : rm.slots = 0) (hd : y.cls = Cn ∧ y.cls ≠ "java/lang/invoke/MethodHandle" ∧ y.cls ≠ "java/lang/invoke/VarHandle" ∧ (parseMethodDescriptor y.desc).map (fun d => d.parameters.length) = some n) (hR : rm.frames + 1 ≤ R.frames ∧ 8 + (maxL + 11) + rm.locals ≤ R.locals) : CallW R s args own Cn index y bytes maxL ret (Cond.code y bytes maxL ret :: Ts) rm 0 0 n := by
  refine cwV n C.1.2.2.2.2 (gx_good C.2.2.2 ?_) rfl hrc hrs hd hR
  intro w hw
  unfold wsV at hw
  rcases List.mem_append.mp hw with hw | hw
  · rcases List.mem_cons.mp hw with rfl | hw
    · exact h1
    · rcases List.mem_cons.mp hw with rfl | hw
      · exact h2
      · rcases List.mem_cons.mp hw with rfl | hw
        · exact h3
        · rw [List.mem_singleton.mp hw]; exact h4
  · rcases List.mem_cons.mp hw with rfl | hw
    · exact h5
    · exact hw
theorem gx_cwS (C : GC p s m args c cc nL own Ts D cl tys A) {y : MethodName} {bytes : ByteArray} {maxL index : Nat} {ret : Option FieldType} {rm : Room} (n : Nat) (h1 : Cond.methodLink own index y ∈ Ts) (h2 : Cond.static y ∈ Ts) (h4 : Cond.initialized own ∈ Ts) (h5 : Cond.code y bytes maxL ret ∈ Ts) (hrc : rm.cells = 0) (hrs : rm.slots = 0) (hd : y.cls = own ∧ y.cls ≠ "java/lang/invoke/MethodHandle" ∧ y.cls ≠ "java/lang/invoke/VarHandle" ∧ (parseMethodDescriptor y.desc).map (fun d => d.parameters.length) = some n) (hR : rm.frames + 1 ≤ R.frames ∧ 8 + (maxL + 11) + rm.locals ≤ R.locals) : CallB R s args own index y bytes maxL ret (Cond.code y bytes maxL ret :: Ts) rm 0 0 n ∧ (Cond.static y).before args s = true := by
  refine cwS n C.1.2.2.2.2 (gx_good C.2.2.2 ?_) rfl hrc hrs hd hR
  intro w hw
  unfold wsS at hw
  rcases List.mem_append.mp hw with hw | hw
  · rcases List.mem_cons.mp hw with rfl | hw
    · exact h1
    · rcases List.mem_cons.mp hw with rfl | hw
      · exact h2
      · rw [List.mem_singleton.mp hw]; exact h4
  · rcases List.mem_cons.mp hw with rfl | hw
    · exact h5
    · exact hw
theorem gx_calli (C : GC p s m args c cc nL own Ts D cl tys A) {y : MethodName} {rm : Room} {bytes : ByteArray} {maxL n index q b ci N : Nat} {ret : Option FieldType} {Cn : String} {T : u_T} {fs : GS → List Value} {As rest : List Value} {post : Int32 → GS → Prop} (hM : MetI l y (Cond.code y bytes maxL ret :: Ts) rm D cl tys wd (.ref b :: As) S post) (cw : CallW R s args own Cn index y bytes maxL ret (Cond.code y bytes maxL ret :: Ts) rm 0 0 n) (ho : GO wd cl q b ci Cn T N fs) (hn : As.length = n) (hw : (rest.map fun v => v.category).sum ≤ 8) (d : decode cc pc = .ok (.invokevirtual index, 3)) (hAd : ∀ S' : GS, (wd S').map (fun q => q.1) = (wd S).map (fun q => q.1)) {st0 : List Value} (hst : st0 = As.reverse ++ .ref b :: rest) (kk : ∀ (r : Int32) (S' : GS), post r S' → GW nc ns p l e R s m args below meth c Q nL D cl A wd S' (pc + 3) L (.int r :: rest)) (hcs : nc ≤ R.cells ∧ ns ≤ R.slots := by exact ⟨Nat.zero_le _, Nat.zero_le _⟩) : GW nc ns p l e R s m args below meth c Q nL D cl A wd S pc L st0 := by
  intro H locs ls h1 h2 h3 h4
  have hFc := gx_free C h3 h4
  refine va_calli (va_runV (As := As) (rest := rest) C.1 (hM H.size) cw ⟨gx_blind, va_recv C.2.1 h2 ho.2 (ho.1 S), fun U hU hW => ⟨rfl, by rw [hU], by rw [hU]; exact h2, va_K.moved hW.alike C.2.1, h3.weaken (fun _ _ _ _ => trivial)⟩⟩ rfl hn h1.1 hst (lv_room hw) d hcs) h4 (fun q _ h => hFc q h) hFc (fun r u t H1 locs1 ht hvm hp hB hz hk hS => ?_)
  obtain ⟨hP1, hK1, hD1⟩ := hB
  rw [ht] at hP1
  exact kk r u hp H1 locs1 ls h1 hP1 (gx_D (hAd u) h3) hS
theorem gx_callv (C : GC p s m args c cc nL own Ts D cl tys A) {y : MethodName} {rm : Room} {bytes : ByteArray} {maxL n index q b ci N : Nat} {ret : Option FieldType} {Cn : String} {T : u_T} {fs : GS → List Value} {As rest : List Value} {post : GS → Prop} (hM : MetV l y (Cond.code y bytes maxL ret :: Ts) rm D cl tys wd (.ref b :: As) S post) (cw : CallW R s args own Cn index y bytes maxL ret (Cond.code y bytes maxL ret :: Ts) rm 0 0 n) (ho : GO wd cl q b ci Cn T N fs) (hn : As.length = n) (hw : (rest.map fun v => v.category).sum ≤ 8) (d : decode cc pc = .ok (.invokevirtual index, 3)) (hAd : ∀ S' : GS, (wd S').map (fun q => q.1) = (wd S).map (fun q => q.1)) {st0 : List Value} (hst : st0 = As.reverse ++ .ref b :: rest) (kk : ∀ (S' : GS), post S' → GW nc ns p l e R s m args below meth c Q nL D cl A wd S' (pc + 3) L rest) (hcs : nc ≤ R.cells ∧ ns ≤ R.slots := by exact ⟨Nat.zero_le _, Nat.zero_le _⟩) : GW nc ns p l e R s m args below meth c Q nL D cl A wd S pc L st0 := by
  intro H locs ls h1 h2 h3 h4
  have hFc := gx_free C h3 h4
  refine va_callv (va_runV (As := As) (rest := rest) C.1 (hM H.size) cw ⟨gx_blind, va_recv C.2.1 h2 ho.2 (ho.1 S), fun U hU hW => ⟨rfl, by rw [hU], by rw [hU]; exact h2, va_K.moved hW.alike C.2.1, h3.weaken (fun _ _ _ _ => trivial)⟩⟩ rfl hn h1.1 hst (lv_room hw) d hcs) h4 (fun q _ h => hFc q h) hFc (fun u t H1 locs1 ht hvm hp hB hz hk hS => ?_)
  obtain ⟨hP1, hK1, hD1⟩ := hB
  rw [ht] at hP1
  exact kk u hp H1 locs1 ls h1 hP1 (gx_D (hAd u) h3) hS
theorem gx_calls (C : GC p s m args c cc nL own Ts D cl tys A) {y : MethodName} {rm : Room} {bytes : ByteArray} {maxL n index : Nat} {ret : Option FieldType} {As rest : List Value} {post : Int32 → GS → Prop} (hM : MetI l y (Cond.code y bytes maxL ret :: Ts) rm D cl tys wd As S post) (cw : CallB R s args own index y bytes maxL ret (Cond.code y bytes maxL ret :: Ts) rm 0 0 n ∧ (Cond.static y).before args s = true) (hn : As.length = n) (hw : (rest.map fun v => v.category).sum ≤ 8) (d : decode cc pc = .ok (.invokestatic index, 3)) (hAd : ∀ S' : GS, (wd S').map (fun q => q.1) = (wd S).map (fun q => q.1)) {st0 : List Value} (hst : st0 = As.reverse ++ rest) (kk : ∀ (r : Int32) (S' : GS), post r S' → GW nc ns p l e R s m args below meth c Q nL D cl A wd S' (pc + 3) L (.int r :: rest)) (hcs : nc ≤ R.cells ∧ ns ≤ R.slots := by exact ⟨Nat.zero_le _, Nat.zero_le _⟩) : GW nc ns p l e R s m args below meth c Q nL D cl A wd S pc L st0 := by
  intro H locs ls h1 h2 h3 h4
  have hFc := gx_free C h3 h4
  refine va_calli (va_runS (As := As) (rest := rest) C.1 (hM H.size) cw ⟨gx_blind, fun U hU hW => ⟨rfl, by rw [hU], by rw [hU]; exact h2, va_K.moved hW.alike C.2.1, h3.weaken (fun _ _ _ _ => trivial)⟩⟩ rfl hn h1.1 hst (lv_room hw) d hcs) h4 (fun q _ h => hFc q h) hFc (fun r u t H1 locs1 ht hvm hp hB hz hk hS => ?_)
  obtain ⟨hP1, hK1, hD1⟩ := hB
  rw [ht] at hP1
  exact kk r u hp H1 locs1 ls h1 hP1 (gx_D (hAd u) h3) hS
theorem gx_iret (C : GC p s m args c cc nL own Ts D cl tys A) {post : Int32 → GS → Prop} {r : Int32} (hr : meth.sig.returnType = some .int) (hlocks : meth.locks = false) (d : decode cc pc = .ok (.ireturn, 1)) (hp : post r S) : GV p l e R s m args below meth c (MQ below (va_Qi post (GB wd D cl tys A) A) args s 0 0 A) nL D cl A wd S pc L [.int r] :=
  fun H locs ls h1 h2 h3 h4 => W.iret C.1.1 C.1.2.1 hr (fun t ht hW => ⟨⟨r, S, rfl, hp, by rw [ht]; exact h2, va_K.moved hW.alike C.2.1, h3⟩, h4.F ht⟩) h4.2.2 d hlocks
theorem gx_zret (C : GC p s m args c cc nL own Ts D cl tys A) {post : Int32 → GS → Prop} {r : Int32} (hr : meth.sig.returnType = some .boolean) (hlocks : meth.locks = false) (d : decode cc pc = .ok (.ireturn, 1)) (hp : post r S) (hn : narrow .boolean (.int r) = .int r) : GV p l e R s m args below meth c (MQ below (va_Qi post (GB wd D cl tys A) A) args s 0 0 A) nL D cl A wd S pc L [.int r] :=
  fun H locs ls h1 h2 h3 h4 => W.zret C.1.1 C.1.2.1 hr hn (fun t ht hW => ⟨⟨r, S, rfl, hp, by rw [ht]; exact h2, va_K.moved hW.alike C.2.1, h3⟩, h4.F ht⟩) h4.2.2 d hlocks
theorem gx_vret (C : GC p s m args c cc nL own Ts D cl tys A) {post : GS → Prop} (hr : meth.sig.returnType = none) (hlocks : meth.locks = false) (d : decode cc pc = .ok (.return_, 1)) (hp : post S) : GV p l e R s m args below meth c (MQ below (va_Qv post (GB wd D cl tys A) A) args s 0 0 A) nL D cl A wd S pc L [] :=
  fun H locs ls h1 h2 h3 h4 => W.vret C.1.1 C.1.2.1 hr (fun t ht hW => ⟨⟨S, rfl, hp, by rw [ht]; exact h2, va_K.moved hW.alike C.2.1, h3⟩, h4.F ht⟩) h4.2.2 d hlocks
end GXA
/-! a method's contract out of its walk -/
theorem gx_metI {l : Launch} {y : MethodName} {Ts : List Cond} {rm : Room} {cc : ByteArray} {maxL : Nat} {D : va_G} {cl : List vw_C} {tys : List (ClassId × FieldType)} {wd : GS → va_W} {av : List Value} {S : GS} {post : Int32 → GS → Prop} {ret : Option FieldType} (hy : plainName y.cls = true) (hgood : ∀ w ∈ Ts, goodWord w = true) (hlen : (lg_sl av).length ≤ maxL)
    (body : ∀ (p : Program) (e : Env) (s : State) (m : MethodId) (args : Array Value) (below : List Frame) (meth : Method) (c : Code) (A : Nat → Prop), GC p s m args c cc maxL y.cls Ts D cl tys A → meth.sig.returnType = ret → meth.locks = false → GV p l e rm s m args below meth c (MQ below (va_Qi post (GB wd D cl tys A) A) args s 0 0 A) maxL D cl A wd S 0 (lv_args 0 av) []) : MetI l y (Cond.code y cc maxL ret :: Ts) rm D cl tys wd av S post := by
  intro sz
  refine Met.ofW (cc := cc) (maxL := maxL) (ret := ret) hy rfl ?_
  intro p e s m args below meth c s₁ B hml hv
  obtain ⟨rfl, hsz, hP, hK, hD0⟩ := hv
  subst hsz
  rw [lg_entry_eq]
  refine body p e s m av.toArray below meth c (va_A (wd S) s.heap.size) ⟨⟨B.exec, B.bytes, hml, findClass_of_methodNamed B.named, fun w hw => atoms_spec (ws := Cond.code y cc maxL ret :: Ts) B.pre w (List.mem_cons_of_mem _ hw)⟩, hK, fun q h => Or.inr h, hgood⟩ B.returns B.notSynchronized s.heap [] _ (lv_entry av hlen) hP hD0.self va_S.rf
theorem gx_metV {l : Launch} {y : MethodName} {Ts : List Cond} {rm : Room} {cc : ByteArray} {maxL : Nat} {D : va_G} {cl : List vw_C} {tys : List (ClassId × FieldType)} {wd : GS → va_W} {av : List Value} {S : GS} {post : GS → Prop} {ret : Option FieldType} (hy : plainName y.cls = true) (hgood : ∀ w ∈ Ts, goodWord w = true) (hlen : (lg_sl av).length ≤ maxL)
    (body : ∀ (p : Program) (e : Env) (s : State) (m : MethodId) (args : Array Value) (below : List Frame) (meth : Method) (c : Code) (A : Nat → Prop), GC p s m args c cc maxL y.cls Ts D cl tys A → meth.sig.returnType = ret → meth.locks = false → GV p l e rm s m args below meth c (MQ below (va_Qv post (GB wd D cl tys A) A) args s 0 0 A) maxL D cl A wd S 0 (lv_args 0 av) []) : MetV l y (Cond.code y cc maxL ret :: Ts) rm D cl tys wd av S post := by
  intro sz
  refine Met.ofW (cc := cc) (maxL := maxL) (ret := ret) hy rfl ?_
  intro p e s m args below meth c s₁ B hml hv
  obtain ⟨rfl, hsz, hP, hK, hD0⟩ := hv
  subst hsz
  rw [lg_entry_eq]
  refine body p e s m av.toArray below meth c (va_A (wd S) s.heap.size) ⟨⟨B.exec, B.bytes, hml, findClass_of_methodNamed B.named, fun w hw => atoms_spec (ws := Cond.code y cc maxL ret :: Ts) B.pre w (List.mem_cons_of_mem _ hw)⟩, hK, fun q h => Or.inr h, hgood⟩ B.returns B.notSynchronized s.heap [] _ (lv_entry av hlen) hP hD0.self va_S.rf
