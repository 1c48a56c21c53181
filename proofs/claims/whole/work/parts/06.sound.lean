def mj_sl (m : mjM) : Nat := (m.map (fun x => x.2)).sum
def mj_cn : Nat → String
  | 0 => RX0
  | 1 => RX1
  | 2 => RX2
  | 3 => RX3
  | 4 => RX4
  | 5 => RX5
  | 6 => RX6
  | 7 => RX7
  | 8 => RX8
  | 9 => RX9
  | 10 => RX10
  | 11 => RX11
  | 12 => RX12
  | 13 => RJ6
  | 14 => RJ9
  | 15 => RJ7
  | _ => RL
def mj_tb : List Cond := lw_tbl.filter goodWord
def mj_isx : Cond → Bool
  | .methodLinkNest .. => true
  | .castable .. => true
  | _ => false
def mj_xn : List Cond := lw_tbl.filter mj_isx
def mj_nc : List (String × String) := [(RX4, RX1), (RX4, RX8), (RX4, RX2), (RX1, RX8), (RX1, RX2), (RX2, RX8), (RX8, RX1), (RX8, RX2)]
/-- words that aren't kept by themselves -/
def mj_XW (U : State) : Prop := (∀ z ∈ mj_xn, va_Nw z U) ∧ va_AO "PointsThrow$Point" U ∧ (Cond.arrayOver (.array .int)).before #[] U = true ∧ ∀ q ∈ mj_nc, va_Nc q.1 q.2 U
def mj_Sim (p : Program) (l : Launch) (e : Env) (R : Room) (s : State) (m : MethodId) (args : Array Value) (below : List Frame) (meth : Method) (c : Code) (Q : State → Prop) (w : mjW) (D : va_G) (L : Nat) (xs : Nat → Int32) (nL n0 u0 : Nat) (cf : mjC) : Prop :=
  ∀ (H : Heap) (locs : List Loc) (als : Array Slot) (cells slots : Nat), mj_HR w D L xs cf.2.2.2 H → va_S (fun q : Nat => w.2.1 ≤ q) s.heap H locs → mj_LR w nL cf.2.1 als → n0 + cells = cf.2.2.2.1.length → u0 + slots = mj_sl cf.2.2.2.1 → W p l e R s m args below meth c H locs cells slots Q (F0 m cf.1 als (cf.2.2.1.map (mj_cv w)))
def mj_Cx (p : Program) (R : Room) (s : State) (m : MethodId) (args : Array Value) (meth : Method) (c : Code) (w : mjW) (D : va_G) (L : Nat) (xs : Nat → Int32) (own nL : Nat) (cc : ByteArray) (ini : Bool) (n0 u0 nE uE : Nat) : Prop :=
  p.tables.exec = Jvm.exec ∧ c.code = cc ∧ c.maxLocals = nL ∧ s.vm.findClass (mj_cn own) = some m.cls ∧ (∀ z ∈ mj_tb, z.before args s = true) ∧ va_K D vwCl (mj_tys w) s ∧ mj_XW s ∧ (ini = true → meth.name = "<init>") ∧ va_X w.1 L xs s s.heap ∧ w.1 < w.2.1 ∧ s.heap.size + 1 = w.2.1 + n0 ∧ 1 ≤ n0 ∧ 1 ≤ R.frames ∧ 100 ≤ R.locals ∧ nE ≤ n0 + R.cells ∧ uE ≤ u0 + R.slots
def mj_ln : Instr → Nat
  | .bipush _ => 2
  | .sipush _ => 3
  | .ldc _ => 2
  | .ldc_w _ => 3
  | .ldc2_w _ => 3
  | .iload _ => 2
  | .lload _ => 2
  | .aload _ => 2
  | .istore _ => 2
  | .lstore _ => 2
  | .astore _ => 2
  | .iinc _ _ => 3
  | .goto _ => 3
  | .ifCond _ _ => 3
  | .if_icmp _ _ => 3
  | .ifnull _ => 3
  | .ifnonnull _ => 3
  | .getfield _ => 3
  | .putfield _ => 3
  | .newarray _ => 2
  | .anewarray _ => 3
  | .multianewarray _ _ => 4
  | .new _ => 3
  | .instanceof _ => 3
  | .invokespecial _ => 3
  | .invokestatic _ => 3
  | .invokevirtual _ => 3
  | _ => 1
theorem mj_Wsz {p : Program} {l : Launch} {e : Env} {R : Room} {s : State} {m : MethodId} {args : Array Value} {below : List Frame} {meth : Method} {c : Code} {Q : State → Prop} {H : Heap} {locs : List Loc} {cells slots : Nat} {g : JFrame} (hlo : s.heap.size + cells ≤ H.size) (k : H.size = s.heap.size + cells → W p l e R s m args below meth c H locs cells slots Q g) : W p l e R s m args below meth c H locs cells slots Q g := fun T hT X => k (by have h := X.heapSize; rw [hT] at h; omega) T hT X
/-- the cells of h are there: H is large enough -/
theorem mj_P_size {w : mjW} {D : va_G} {h : mjH} {H0 H : Heap} {n0 : Nat} (h1 : 1 ≤ n0) (h0 : H0.size + 1 = w.2.1 + n0) (hle : H0.size ≤ H.size) (hn : n0 ≤ h.1.length) (hP : va_P D vwCl (mj_ws w h) H) : w.2.1 + h.1.length ≤ H.size + 1 := by
  by_cases hz : h.1.length = n0
  · omega
  · have hlt : h.1.length - 2 < (mj_ws w h).length := by rw [mj_ws_len]; omega
    obtain ⟨q, hq⟩ : ∃ q, (mj_ws w h)[h.1.length - 2]? = some q := ⟨_, List.getElem?_eq_getElem hlt⟩
    have h1 := (hP _ _ hq).lt
    have h2 := mj_ws_adr hq
    omega
