section
-- ===== PART A: goes FIRST, ahead of the names: the tables' words, and 'selects' of the private methods out of them =====
/-- a private method of a class that the tables say can be made, by its rows of tables_1 -/
def lw_okq (q : MethodName × Nat) : Prop := (q.1.cls ≠ "java/lang/invoke/MethodHandle" ∧ q.1.cls ≠ "java/lang/invoke/VarHandle") ∧ Cond.instantiable q.1.cls q.2 ∈ tables_1 ∧ Cond.privateMethod q.1 ∈ tables_1 ∧ Cond.instanceMethod q.1 ∈ tables_1
theorem lw_p0 : lw_okq (⟨"PathOdds", "clearWeights", "()V"⟩, 11) := ⟨⟨by decide +kernel, by decide +kernel⟩, List.mem_of_getElem? (i := 10) (by decide +kernel), List.mem_of_getElem? (i := 65) (by decide +kernel), List.mem_of_getElem? (i := 66) (by decide +kernel)⟩
theorem lw_p1 : lw_okq (⟨"PathOdds", "isState", "(I)Z"⟩, 11) := ⟨⟨by decide +kernel, by decide +kernel⟩, List.mem_of_getElem? (i := 10) (by decide +kernel), List.mem_of_getElem? (i := 77) (by decide +kernel), List.mem_of_getElem? (i := 78) (by decide +kernel)⟩
theorem lw_p2 : lw_okq (⟨"PathOdds", "fillForward", "()V"⟩, 11) := ⟨⟨by decide +kernel, by decide +kernel⟩, List.mem_of_getElem? (i := 10) (by decide +kernel), List.mem_of_getElem? (i := 111) (by decide +kernel), List.mem_of_getElem? (i := 112) (by decide +kernel)⟩
theorem lw_p3 : lw_okq (⟨"PathOdds", "sumInto", "(II)D"⟩, 11) := ⟨⟨by decide +kernel, by decide +kernel⟩, List.mem_of_getElem? (i := 10) (by decide +kernel), List.mem_of_getElem? (i := 115) (by decide +kernel), List.mem_of_getElem? (i := 116) (by decide +kernel)⟩
theorem lw_p4 : lw_okq (⟨"PathOdds", "weightShown", "(II)D"⟩, 11) := ⟨⟨by decide +kernel, by decide +kernel⟩, List.mem_of_getElem? (i := 10) (by decide +kernel), List.mem_of_getElem? (i := 119) (by decide +kernel), List.mem_of_getElem? (i := 120) (by decide +kernel)⟩
theorem lw_p5 : lw_okq (⟨"PathOdds", "sumAtLast", "()D"⟩, 11) := ⟨⟨by decide +kernel, by decide +kernel⟩, List.mem_of_getElem? (i := 10) (by decide +kernel), List.mem_of_getElem? (i := 123) (by decide +kernel), List.mem_of_getElem? (i := 124) (by decide +kernel)⟩
theorem lw_p6 : lw_okq (⟨"PathOdds", "fillBest", "()V"⟩, 11) := ⟨⟨by decide +kernel, by decide +kernel⟩, List.mem_of_getElem? (i := 10) (by decide +kernel), List.mem_of_getElem? (i := 131) (by decide +kernel), List.mem_of_getElem? (i := 132) (by decide +kernel)⟩
theorem lw_p7 : lw_okq (⟨"PathOdds", "lowestBestInto", "(II)I"⟩, 11) := ⟨⟨by decide +kernel, by decide +kernel⟩, List.mem_of_getElem? (i := 10) (by decide +kernel), List.mem_of_getElem? (i := 135) (by decide +kernel), List.mem_of_getElem? (i := 136) (by decide +kernel)⟩
theorem lw_p8 : lw_okq (⟨"PathOdds", "lowestBestAtLast", "()I"⟩, 11) := ⟨⟨by decide +kernel, by decide +kernel⟩, List.mem_of_getElem? (i := 10) (by decide +kernel), List.mem_of_getElem? (i := 139) (by decide +kernel), List.mem_of_getElem? (i := 140) (by decide +kernel)⟩
theorem lw_p9 : lw_okq (⟨"PathOdds", "isPlace", "(I)Z"⟩, 11) := ⟨⟨by decide +kernel, by decide +kernel⟩, List.mem_of_getElem? (i := 10) (by decide +kernel), List.mem_of_getElem? (i := 147) (by decide +kernel), List.mem_of_getElem? (i := 148) (by decide +kernel)⟩
theorem lw_p10 : lw_okq (⟨"PathOdds", "fillCounts", "()V"⟩, 11) := ⟨⟨by decide +kernel, by decide +kernel⟩, List.mem_of_getElem? (i := 10) (by decide +kernel), List.mem_of_getElem? (i := 155) (by decide +kernel), List.mem_of_getElem? (i := 156) (by decide +kernel)⟩
theorem lw_p11 : lw_okq (⟨"PathOdds", "countInto", "(II)J"⟩, 11) := ⟨⟨by decide +kernel, by decide +kernel⟩, List.mem_of_getElem? (i := 10) (by decide +kernel), List.mem_of_getElem? (i := 159) (by decide +kernel), List.mem_of_getElem? (i := 160) (by decide +kernel)⟩
theorem lw_p12 : lw_okq (⟨"PathOdds", "refuseWrongPlace", "(II)V"⟩, 11) := ⟨⟨by decide +kernel, by decide +kernel⟩, List.mem_of_getElem? (i := 10) (by decide +kernel), List.mem_of_getElem? (i := 172) (by decide +kernel), List.mem_of_getElem? (i := 173) (by decide +kernel)⟩
theorem lw_p13 : lw_okq (⟨"java/lang/Throwable", "fillInStackTrace", "(I)Ljava/lang/Throwable;"⟩, 6) := ⟨⟨by decide +kernel, by decide +kernel⟩, List.mem_of_getElem? (i := 214) (by decide +kernel), List.mem_of_getElem? (i := 212) (by decide +kernel), List.mem_of_getElem? (i := 213) (by decide +kernel)⟩
theorem lw_p14 : lw_okq (⟨"PathOdds", "fillBackward", "()V"⟩, 11) := ⟨⟨by decide +kernel, by decide +kernel⟩, List.mem_of_getElem? (i := 10) (by decide +kernel), List.mem_of_getElem? (i := 267) (by decide +kernel), List.mem_of_getElem? (i := 268) (by decide +kernel)⟩
theorem lw_p15 : lw_okq (⟨"PathOdds", "sumOutOf", "(II)D"⟩, 11) := ⟨⟨by decide +kernel, by decide +kernel⟩, List.mem_of_getElem? (i := 10) (by decide +kernel), List.mem_of_getElem? (i := 271) (by decide +kernel), List.mem_of_getElem? (i := 272) (by decide +kernel)⟩
def lw_privs_1 : List (MethodName × Nat) := [(⟨"PathOdds", "clearWeights", "()V"⟩, 11), (⟨"PathOdds", "isState", "(I)Z"⟩, 11), (⟨"PathOdds", "fillForward", "()V"⟩, 11), (⟨"PathOdds", "sumInto", "(II)D"⟩, 11), (⟨"PathOdds", "weightShown", "(II)D"⟩, 11), (⟨"PathOdds", "sumAtLast", "()D"⟩, 11), (⟨"PathOdds", "fillBest", "()V"⟩, 11), (⟨"PathOdds", "lowestBestInto", "(II)I"⟩, 11), (⟨"PathOdds", "lowestBestAtLast", "()I"⟩, 11), (⟨"PathOdds", "isPlace", "(I)Z"⟩, 11), (⟨"PathOdds", "fillCounts", "()V"⟩, 11), (⟨"PathOdds", "countInto", "(II)J"⟩, 11), (⟨"PathOdds", "refuseWrongPlace", "(II)V"⟩, 11), (⟨"java/lang/Throwable", "fillInStackTrace", "(I)Ljava/lang/Throwable;"⟩, 6), (⟨"PathOdds", "fillBackward", "()V"⟩, 11), (⟨"PathOdds", "sumOutOf", "(II)D"⟩, 11)]
theorem lw_r1 : ∀ q ∈ lw_privs_1, lw_okq q := List.forall_mem_cons.mpr ⟨lw_p0, List.forall_mem_cons.mpr ⟨lw_p1, List.forall_mem_cons.mpr ⟨lw_p2, List.forall_mem_cons.mpr ⟨lw_p3, List.forall_mem_cons.mpr ⟨lw_p4, List.forall_mem_cons.mpr ⟨lw_p5, List.forall_mem_cons.mpr ⟨lw_p6, List.forall_mem_cons.mpr ⟨lw_p7, List.forall_mem_cons.mpr ⟨lw_p8, List.forall_mem_cons.mpr ⟨lw_p9, List.forall_mem_cons.mpr ⟨lw_p10, List.forall_mem_cons.mpr ⟨lw_p11, List.forall_mem_cons.mpr ⟨lw_p12, List.forall_mem_cons.mpr ⟨lw_p13, List.forall_mem_cons.mpr ⟨lw_p14, List.forall_mem_cons.mpr ⟨lw_p15, fun _ h => absurd h List.not_mem_nil⟩⟩⟩⟩⟩⟩⟩⟩⟩⟩⟩⟩⟩⟩⟩⟩
theorem lw_p16 : lw_okq (⟨"PathOddsModel", "state", "(I)Z"⟩, 11) := ⟨⟨by decide +kernel, by decide +kernel⟩, List.mem_of_getElem? (i := 299) (by decide +kernel), List.mem_of_getElem? (i := 355) (by decide +kernel), List.mem_of_getElem? (i := 356) (by decide +kernel)⟩
theorem lw_p17 : lw_okq (⟨"PathOddsModel", "fault", "(II)I"⟩, 11) := ⟨⟨by decide +kernel, by decide +kernel⟩, List.mem_of_getElem? (i := 299) (by decide +kernel), List.mem_of_getElem? (i := 389) (by decide +kernel), List.mem_of_getElem? (i := 390) (by decide +kernel)⟩
theorem lw_p18 : lw_okq (⟨"PathOddsModel", "ahead", "(I)V"⟩, 11) := ⟨⟨by decide +kernel, by decide +kernel⟩, List.mem_of_getElem? (i := 299) (by decide +kernel), List.mem_of_getElem? (i := 393) (by decide +kernel), List.mem_of_getElem? (i := 394) (by decide +kernel)⟩
theorem lw_p19 : lw_okq (⟨"PathOddsModel", "shown", "(II)D"⟩, 11) := ⟨⟨by decide +kernel, by decide +kernel⟩, List.mem_of_getElem? (i := 299) (by decide +kernel), List.mem_of_getElem? (i := 397) (by decide +kernel), List.mem_of_getElem? (i := 398) (by decide +kernel)⟩
theorem lw_p20 : lw_okq (⟨"PathOddsModel", "shift", "()V"⟩, 11) := ⟨⟨by decide +kernel, by decide +kernel⟩, List.mem_of_getElem? (i := 299) (by decide +kernel), List.mem_of_getElem? (i := 401) (by decide +kernel), List.mem_of_getElem? (i := 402) (by decide +kernel)⟩
theorem lw_p21 : lw_okq (⟨"PathOddsModel", "behind", "(I)V"⟩, 11) := ⟨⟨by decide +kernel, by decide +kernel⟩, List.mem_of_getElem? (i := 299) (by decide +kernel), List.mem_of_getElem? (i := 409) (by decide +kernel), List.mem_of_getElem? (i := 410) (by decide +kernel)⟩
theorem lw_p22 : lw_okq (⟨"PathOddsModel", "all", "()D"⟩, 11) := ⟨⟨by decide +kernel, by decide +kernel⟩, List.mem_of_getElem? (i := 299) (by decide +kernel), List.mem_of_getElem? (i := 417) (by decide +kernel), List.mem_of_getElem? (i := 418) (by decide +kernel)⟩
theorem lw_p23 : lw_okq (⟨"PathOddsModel", "greatest", "(I)V"⟩, 11) := ⟨⟨by decide +kernel, by decide +kernel⟩, List.mem_of_getElem? (i := 299) (by decide +kernel), List.mem_of_getElem? (i := 425) (by decide +kernel), List.mem_of_getElem? (i := 426) (by decide +kernel)⟩
theorem lw_p24 : lw_okq (⟨"PathOddsModel", "from", "(I)I"⟩, 11) := ⟨⟨by decide +kernel, by decide +kernel⟩, List.mem_of_getElem? (i := 299) (by decide +kernel), List.mem_of_getElem? (i := 429) (by decide +kernel), List.mem_of_getElem? (i := 430) (by decide +kernel)⟩
theorem lw_p25 : lw_okq (⟨"PathOddsModel", "last", "()I"⟩, 11) := ⟨⟨by decide +kernel, by decide +kernel⟩, List.mem_of_getElem? (i := 299) (by decide +kernel), List.mem_of_getElem? (i := 433) (by decide +kernel), List.mem_of_getElem? (i := 434) (by decide +kernel)⟩
def lw_privs_2 : List (MethodName × Nat) := [(⟨"PathOddsModel", "state", "(I)Z"⟩, 11), (⟨"PathOddsModel", "fault", "(II)I"⟩, 11), (⟨"PathOddsModel", "ahead", "(I)V"⟩, 11), (⟨"PathOddsModel", "shown", "(II)D"⟩, 11), (⟨"PathOddsModel", "shift", "()V"⟩, 11), (⟨"PathOddsModel", "behind", "(I)V"⟩, 11), (⟨"PathOddsModel", "all", "()D"⟩, 11), (⟨"PathOddsModel", "greatest", "(I)V"⟩, 11), (⟨"PathOddsModel", "from", "(I)I"⟩, 11), (⟨"PathOddsModel", "last", "()I"⟩, 11)]
theorem lw_r2 : ∀ q ∈ lw_privs_2, lw_okq q := List.forall_mem_cons.mpr ⟨lw_p16, List.forall_mem_cons.mpr ⟨lw_p17, List.forall_mem_cons.mpr ⟨lw_p18, List.forall_mem_cons.mpr ⟨lw_p19, List.forall_mem_cons.mpr ⟨lw_p20, List.forall_mem_cons.mpr ⟨lw_p21, List.forall_mem_cons.mpr ⟨lw_p22, List.forall_mem_cons.mpr ⟨lw_p23, List.forall_mem_cons.mpr ⟨lw_p24, List.forall_mem_cons.mpr ⟨lw_p25, fun _ h => absurd h List.not_mem_nil⟩⟩⟩⟩⟩⟩⟩⟩⟩⟩
def lw_privs : List (MethodName × Nat) := lw_privs_1 ++ (lw_privs_2)
def lw_tbl : List Cond := k2_sels lw_privs ++ tables_1
theorem lw_privs_ok : ∀ q ∈ lw_privs, lw_okq q := by
  show ∀ q ∈ lw_privs_1 ++ (lw_privs_2), lw_okq q
  exact List.forall_mem_append.mpr ⟨lw_r1, lw_r2⟩
/-- the streams that the claim lets the run draw from -/
abbrev lw_cs : List Choice := [Jvm.Choice.named "NaN.bits"]
theorem lw_bits : nanBits ∈ lw_cs := by first | decide | exact List.mem_cons_self | simp [lw_cs, nanBits]
-- ===== end of PART A; then your names; then what follows =====
end
section
/-! ===== BEGIN words of one list among another's, by their places ===== -/
theorem goodIn_r {big : List Cond} (ws : List Cond) (ps : List Nat) (hp : ws = ps.filterMap (fun i => big[i]?)) (h : ws.all goodWord = true) : GoodIn big ws := by
  intro w hw
  have h1 := List.all_eq_true.mp h w hw
  rw [hp] at hw
  obtain ⟨i, -, hi⟩ := List.mem_filterMap.mp hw
  have hm : w ∈ big := by first | exact List.mem_of_getElem? hi | exact List.getElem?_mem hi
  exact ⟨hm, good_of_word h1⟩
theorem goodIn_app {big a b : List Cond} (ha : GoodIn big a) (hb : GoodIn big b) : GoodIn big (a ++ b) := fun w h => (List.mem_append.mp h).elim (ha w) (hb w)
theorem goodIn_ca {big a b : List Cond} {c : Cond} (ha : GoodIn big (c :: a)) (hb : GoodIn big b) : GoodIn big (c :: (a ++ b)) := fun w h => (List.mem_cons.mp h).elim (fun e => ha w (List.mem_cons.mpr (Or.inl e))) (fun h => (List.mem_append.mp h).elim (fun h => ha w (List.mem_cons.mpr (Or.inr h))) (hb w))
theorem goodIn_sub {big ws : List Cond} (hm : ∀ w ∈ ws, w ∈ big) (h : ws.all goodWord = true) : GoodIn big ws := fun w hw => ⟨hm w hw, good_of_word (List.all_eq_true.mp h w hw)⟩
/-! ===== END ===== -/
/-! ===== BEGIN exceptions that leave a method, and their catching by the caller (launches without stack traces) ===== -/
section VXA
/-! The laws vx_back, vx_callV, vx_callS, vx_callSW, vx_throw0, vx_throwS follow proofs of the library, with one case more: JvmDerived/Free/Laws.lean (Back.of_free), Shelf42/LK1.lean (callV, callS), Shelf/KitTraced.lean (throwNew0V, throwNewS). -/
/-- where a method has thrown q: the class by its name, the cell, what was written, the world -/
def vx_T (XC : String → State → State → Prop) (st : State) (q : Addr) (t : State) (mc ms : Nat) (free : Addr → Prop) : Prop :=
  ∃ (E : String) (ce : Cell) (L : List Loc), XC E st t ∧ t.heap[q]? = some ce ∧ ce.vm = .none ∧ st.vm.findClass E = some ce.cls ∧ st.WarmedH t.vm ∧ st.sameButNew ({ t with vm := st.vm } : State) L mc ms ∧ ∀ z ∈ L, free z.base
def vx_Q (Qc : Array Value → State → Outcome → State → Prop) (XC : String → State → State → Prop) (mc ms : Nat) (free : Addr → Prop) : Array Value → State → Outcome → State → Prop := fun a st o t =>
  (Qc a st o t ∧ ∃ L, FrameEnd st o t L mc ms ∧ ∀ q ∈ L, free q.base) ∨ ∃ q, o = .threw q ∧ vx_T XC st q t mc ms free
/-- a callee that returns or throws -/
def vx_Met (l : Launch) (y : MethodName) (ws : List Cond) (rm : Room) (Pc : Array Value → State → Prop) (Qc : Array Value → State → Outcome → State → Prop) (XC : String → State → State → Prop) (mc ms : Nat) (free : Addr → Prop) : Prop :=
  MetFree l y (headSpec ws rm) Pc (fun _ _ _ _ _ => True) (vx_Q Qc XC mc ms free)
def vx_Post (XC : String → State → State → Prop) (mc ms : Nat) (free : Addr → Prop) : Pt → Array Value → Addr → Pt → Prop := fun A a q B =>
  ∃ (g : JFrame) (mk : MethodId) (t : State) (L : List Loc) (E : String) (ce : Cell), B.U.heap = t.heap ∧ B.U.vm = t.vm ∧ XC E (A.U.calling g mk a) t ∧ t.heap[q]? = some ce ∧ ce.vm = .none ∧ A.U.vm.findClass E = some ce.cls ∧ B.locs = A.locs ++ L ∧ (∀ z ∈ L, free z.base) ∧ B.cells = A.cells + mc ∧ B.slots = A.slots + ms
def vx_Back (l : Launch) (R : Room) (p : Program) (e : Env) (below : List Frame) (s : State) (sargs : Array Value) (y : MethodName) (len W9 : Nat)
    (Pre : Pt → Array Value → Prop) (Post : Pt → Array Value → Option Value → Pt → Prop) (PostX : Pt → Array Value → Addr → Pt → Prop) : Prop :=
  ∀ (m : MethodId) (meth : Method) (c : Code) (A : Pt) (g : JFrame) (ig : Instr) (mk : MethodId) (a : Array Value),
    Stand p l e R s m sargs below meth c A.U A.locs A.cells A.slots → g.method = m → g.locals.size = c.maxLocals → decode c.code g.pc = .ok (ig, len) →
    2 * g.monitorRoom + (g.stack.map fun v => v.category).sum ≤ W9 → A.U.methodNamed? y = some mk → Pre A a →
    (∃ (v : Option Value) (B : Pt), Stand p l e R s m sargs below meth c B.U B.locs B.cells B.slots ∧ Post A a v B ∧
      Steps p.tables e below (doInvoke e (A.U.setTop g) [] mk a).1 (B.U.setTop { g with pc := g.pc + len, stack := v.toList ++ g.stack })) ∨
    (∃ (q : Addr) (B : Pt), Stand p l e R s m sargs below meth c B.U B.locs B.cells B.slots ∧ PostX A a q B ∧
      Steps p.tables e below (doInvoke e (A.U.setTop g) [] mk a).1 ((B.U.setTop g).pushFrame (.throwing q)))
section Payer
variable {l : Launch} {R : Room} {p : Program} {e : Env} {below : List Frame} {s : State} {sargs : Array Value} {y : MethodName} {len W9 : Nat}
theorem vx_back {ws : List Cond} {rm : Room} {Pc : Array Value → State → Prop} {Qc : Array Value → State → Outcome → State → Prop} {XC : String → State → State → Prop} {mc ms : Nat} {free : Addr → Prop} {bytes : ByteArray} {maxL : Nat} {ret : Option FieldType}
    (hM : vx_Met l y ws rm Pc Qc XC mc ms free) (hblind : FrameBlind Pc) (hrc : rm.cells = mc) (hrs : rm.slots = ms)
    (hframes : rm.frames + 1 ≤ R.frames) (hlocals : W9 + (maxL + 11) + rm.locals ≤ R.locals)
    (hws : ∀ w ∈ ws, ∀ a' U, s.WarmedH U.vm → w.before a' U = true) (hcode : Cond.code y bytes maxL ret ∈ ws) (hinit : ∀ a' U, s.WarmedH U.vm → (Cond.initialized y.cls).before a' U = true) :
    vx_Back l R p e below s sargs y len W9 (PreOf R mc ms Pc) (PostOf Qc mc ms free) (vx_Post XC mc ms free) := by
  intro m meth c A g ig mk a X hg hsize hdg hW hn hp
  have h1 : (headSpec ws rm).pre.before a A.U = true := atoms_intro fun w hw => hws w hw _ _ X.warmed
  have h2 : (Cond.code y bytes maxL ret).before a A.U = true := hws _ hcode _ _ X.warmed
  have h3 : (Cond.initialized y.cls).before a A.U = true := hinit _ _ X.warmed
  have h4 : A.cells + (headSpec ws rm).room.cells ≤ R.cells := by rw [show (headSpec ws rm).room.cells = mc from hrc]; exact hp.1
  have h5 : A.slots + (headSpec ws rm).room.slots ≤ R.slots := by rw [show (headSpec ws rm).room.slots = ms from hrs]; exact hp.2.1
  have hPc : Pc a (A.U.calling g mk a) := hblind _ _ _ _ hp.2.2
  obtain ⟨U, Ls, c0, s0⟩ := A
  dsimp only [Pt.U, Pt.locs, Pt.cells, Pt.slots] at h1 h2 h3 h4 h5 X hn hPc ⊢
  obtain ⟨methY, cY, hmY, hcY, -, hlY, -, -, -, -⟩ := Cond.code_spec hn h2
  obtain ⟨kY, hkY, -⟩ := className_of_methodNamed hn
  have hinitY : kY.init = .initialized := Cond.initialized_spec (findClass_of_methodNamed hn) hkY h3
  have h : At U g.method c below := by rw [hg]; exact X.here
  have hlocals9 : W9 + (maxL + 11) + (headSpec ws rm).room.locals ≤ R.locals := hlocals
  have happ : (headSpec ws rm).appliesLoose y e.platform (U.calling g mk a) = true :=
    Spec.appliesLoose_calling (g := g) h hdg hn hkY hinitY
      (X.room_calling (g := g) (R' := (headSpec ws rm).room) hsize hmY hcY hframes (by rw [hlY]; omega) h4 h5) h1
  obtain ⟨mid, hmid⟩ := h.above
  have hfr : (U.setTop g).frames = (.java g :: mid) ++ below := by rw [State.frames_setTop' g h.top, hmid]; rfl
  obtain ⟨o, s₂, hsteps, -, hend, hq⟩ := Steps.callFree hM p X.admits X.cas X.clock (acts := []) hfr happ hPc trivial
  have hq' : vx_Q Qc XC mc ms free a (U.calling g mk a) o s₂ := hq
  rw [State.frames_setTop' g h.top] at hend
  obtain ⟨g₀, hg0⟩ := Option.isSome_iff_exists.mp h.top
  obtain ⟨r, hr⟩ := State.topJava?_eq_some.mp hg0
  have hr' : (({ U with heap := s₂.heap, slotsUsed := s₂.slotsUsed } : State).setVm s₂.vm).frames = .java g₀ :: r := hr
  rcases hq' with ⟨hqc, L, hfe, hL⟩ | ⟨q, rfl, E, ce, L, hx, hce, hcv, hcl, hW₂, hsm, hL⟩
  · obtain ⟨⟨v, rfl⟩, hW₂, e2, q2, q3, q4, q5, q6⟩ := id hfe
    have e3 : s₂ = ({ (U.calling g mk a).setFrames s₂.frames with heap := s₂.heap, slotsUsed := s₂.slotsUsed } : State).setVm s₂.vm := by
      have : s₂ = ({ s₂ with vm := (U.calling g mk a).vm } : State).setVm s₂.vm := rfl
      rw [e2] at this
      exact this
    obtain ⟨c₂, i₂, len₂, hc₂, hd₂, hf₂⟩ := hend
    have hW' : U.WarmedH s₂.vm := hW₂
    have hcc : c₂ = c := by
      have h1 : s₂.code? g.method = U.code? g.method := by
        rw [State.code?_eq, State.code?_eq, hW'.alike.method?]
      exact Option.some.inj (hc₂.symm.trans (h1.trans h.code))
    subst hcc
    have hlen : len₂ = len := by rw [hdg] at hd₂; cases hd₂; rfl
    subst hlen
    have hs₂ : s₂ = (({ U with heap := s₂.heap, slotsUsed := s₂.slotsUsed } : State).setVm s₂.vm).setTop { g with pc := g.pc + len₂, stack := v.toList ++ g.stack } := by
      refine e3.trans ?_
      rw [hf₂, State.calling_eq h.top, State.setFrames_setFrames, State.setTop_of_frames _ hr', hr]
      rfl
    have hsame : U.sameButNew ({ U with heap := s₂.heap, slotsUsed := s₂.slotsUsed } : State) L mc ms := by
      refine ⟨?_, q2, q3, q4, q5, q6⟩
      obtain ⟨t, ht, -⟩ := State.frames_cons hr
      show ({ U with heap := s₂.heap, slotsUsed := s₂.slotsUsed } : State) = { U.setFrames U.frames with heap := s₂.heap, slotsUsed := s₂.slotsUsed }
      rw [State.setFrames_self ht]
    subst hg
    refine Or.inl ⟨v, ⟨(({ U with heap := s₂.heap, slotsUsed := s₂.slotsUsed } : State).setVm s₂.vm), Ls ++ L, c0 + mc, s0 + ms⟩,
      ⟨X.admits, X.cas, X.clock, X.frames, X.room, X.hears, X.method, X.code, (X.here.setHeapUsed s₂.heap s₂.slotsUsed).setVm hW'.alike, X.tail, State.WarmedH.trans X.warmed hW', X.limits, X.bytes, X.same.trans (hsame.setVm s.vm)⟩,
      ⟨g, mk, s₂, L, rfl, rfl, hqc, rfl, hL, rfl, rfl⟩, ?_⟩
    show Steps p.tables e below _ ((({ U with heap := s₂.heap, slotsUsed := s₂.slotsUsed } : State).setVm s₂.vm).setTop { g with pc := g.pc + len₂, stack := v.toList ++ g.stack })
    rw [← hs₂]
    exact hsteps
  · obtain ⟨e2, q2, q3, q4, q5, q6⟩ := id hsm
    have e3 : s₂ = ({ (U.calling g mk a).setFrames s₂.frames with heap := s₂.heap, slotsUsed := s₂.slotsUsed } : State).setVm s₂.vm := by
      have : s₂ = ({ s₂ with vm := (U.calling g mk a).vm } : State).setVm s₂.vm := rfl
      rw [e2] at this
      exact this
    have hf₂ : s₂.frames = .throwing q :: .java g :: U.frames.tail := hend
    have hW' : U.WarmedH s₂.vm := hW₂
    have hs₂ : s₂ = ((({ U with heap := s₂.heap, slotsUsed := s₂.slotsUsed } : State).setVm s₂.vm).setTop g).pushFrame (.throwing q) := by
      refine e3.trans ?_
      rw [hf₂, State.calling_eq h.top, State.setFrames_setFrames, State.pushFrame, State.frames_setTop _ hr', State.setTop_of_frames _ hr', State.setFrames_setFrames, hr]
      rfl
    have hsame : U.sameButNew ({ U with heap := s₂.heap, slotsUsed := s₂.slotsUsed } : State) L mc ms := by
      refine ⟨?_, q2, q3, q4, q5, q6⟩
      obtain ⟨t, ht, -⟩ := State.frames_cons hr
      show ({ U with heap := s₂.heap, slotsUsed := s₂.slotsUsed } : State) = { U.setFrames U.frames with heap := s₂.heap, slotsUsed := s₂.slotsUsed }
      rw [State.setFrames_self ht]
    subst hg
    refine Or.inr ⟨q, ⟨(({ U with heap := s₂.heap, slotsUsed := s₂.slotsUsed } : State).setVm s₂.vm), Ls ++ L, c0 + mc, s0 + ms⟩,
      ⟨X.admits, X.cas, X.clock, X.frames, X.room, X.hears, X.method, X.code, (X.here.setHeapUsed s₂.heap s₂.slotsUsed).setVm hW'.alike, X.tail, State.WarmedH.trans X.warmed hW', X.limits, X.bytes, X.same.trans (hsame.setVm s.vm)⟩,
      ⟨g, mk, s₂, L, E, ce, rfl, rfl, hx, hce, hcv, hcl, rfl, hL, rfl, rfl⟩, ?_⟩
    show Steps p.tables e below _ (((({ U with heap := s₂.heap, slotsUsed := s₂.slotsUsed } : State).setVm s₂.vm).setTop g).pushFrame (.throwing q))
    rw [← hs₂]
    exact hsteps
end Payer
section Calls
variable {p : Program} {l : Launch} {e : Env} {R : Room} {s : State} {m : MethodId} {args : Array Value} {below : List Frame} {meth : Method} {c : Code} {T : State} {locs : List Loc} {cells slots : Nat}
theorem vx_callV (X : Stand p l e R s m args below meth c T locs cells slots) (hexec : p.tables.exec = Jvm.exec) {own C : String} {index : Nat} {y : MethodName} {bytes : ByteArray} {maxL : Nat} {ret : Option FieldType}
    (hown : s.vm.findClass own = some m.cls) (hlink : (Cond.methodLink own index y).before args s = true) (hinst : (Cond.instanceMethod y).before args s = true) (hsel : (Cond.selects C y y).before args s = true)
    (hcode : (Cond.code y bytes maxL ret).before args s = true) (hy : y.cls ≠ "java/lang/invoke/MethodHandle" ∧ y.cls ≠ "java/lang/invoke/VarHandle")
    {W9 : Nat} {Pre : Pt → Array Value → Prop} {Post : Pt → Array Value → Option Value → Pt → Prop} {PostX : Pt → Array Value → Addr → Pt → Prop} (hK : vx_Back l R p e below s args y 3 W9 Pre Post PostX)
    {b : Addr} {cellB : Cell} (hcell : T.heap[b]? = some cellB) (hobj : cellB.vm.isStatics = false) (hcls : s.vm.findClass C = some cellB.cls)
    {g : JFrame} (hg : g.method = m) (hsize : g.locals.size = c.maxLocals) {argsL rest : List Value} (hlen : ∀ sig, parseMethodDescriptor y.desc = some sig → argsL.length = sig.parameters.length)
    (hstack : g.stack = argsL.reverse ++ .ref b :: rest) (hW : 2 * g.monitorRoom + (rest.map fun v => v.category).sum ≤ W9) (hdg : decode c.code g.pc = .ok (.invokevirtual index, 3))
    (hpre : ∀ vm₁, s.WarmedH vm₁ → Pre ⟨T.setVm vm₁, locs, cells, slots⟩ (Value.ref b :: argsL).toArray) :
    (∃ (v : Option Value) (vm₁ : Vm) (B : Pt), s.WarmedH vm₁ ∧ Stand p l e R s m args below meth c B.U B.locs B.cells B.slots ∧ Post ⟨T.setVm vm₁, locs, cells, slots⟩ (Value.ref b :: argsL).toArray v B ∧
      ∀ target, Steps p.tables e below (B.U.setTop { g with pc := g.pc + 3, stack := v.toList ++ rest }) target → Steps p.tables e below (T.setTop g) target) ∨
    (∃ (q : Addr) (vm₁ : Vm) (B : Pt), s.WarmedH vm₁ ∧ Stand p l e R s m args below meth c B.U B.locs B.cells B.slots ∧ PostX ⟨T.setVm vm₁, locs, cells, slots⟩ (Value.ref b :: argsL).toArray q B ∧
      Steps p.tables e below (T.setTop g) ((B.U.setTop { g with stack := rest }).pushFrame (.throwing q))) := by
  obtain ⟨mk, methM, hnamed, hmethM, hstM, habM⟩ := Cond.instanceMethod_spec hinst
  obtain ⟨methM', cM, hmethM', -, -, -, -, -, -, hsigM⟩ := Cond.code_spec hnamed hcode
  cases hmethM.symm.trans hmethM'
  obtain ⟨c2, r2, m2, q1, q2, q3, q4, kP, hkP, hkPi⟩ := Cond.selects_spec hsel
  cases hcls.symm.trans q1
  cases (State.methodFound?_of_named hnamed hy).symm.trans q2
  cases hnamed.symm.trans q3
  have hselP : selectMethod e.platform s.vm cellB.cls mk = .method mk := by rw [Launch.admits_selectMethod X.admits]; exact q4
  obtain ⟨vm₁, X₁, hstep₁⟩ := X.invokevirtual hexec hown hlink hnamed hmethM hstM hkP hkPi hy (a := b) (cell := cellB) hcell
    (fun z h => by rw [h] at hobj; cases hobj) hselP hmethM habM hkP hkPi (g := g) hg (argsL := argsL) (rest := rest) (hlen _ hsigM) hstack hdg
  rcases hK m meth c ⟨T.setVm vm₁, locs, cells, slots⟩ { g with stack := rest } (.invokevirtual index) mk (Value.ref b :: argsL).toArray X₁ hg hsize hdg hW (X₁.named hnamed) (hpre vm₁ X₁.warmed) with ⟨v, B, X', hpost, hsteps⟩ | ⟨q, B, X', hpost, hsteps⟩
  · exact Or.inl ⟨v, vm₁, B, X₁.warmed, X', hpost, fun target h => hstep₁ _ fun acts => by rw [doInvoke_state]; exact hsteps.trans h⟩
  · exact Or.inr ⟨q, vm₁, B, X₁.warmed, X', hpost, hstep₁ _ fun acts => by rw [doInvoke_state]; exact hsteps⟩
theorem vx_callS (X : Stand p l e R s m args below meth c T locs cells slots) (hexec : p.tables.exec = Jvm.exec) {own : String} {index : Nat} {y : MethodName} {bytes : ByteArray} {maxL : Nat} {ret : Option FieldType}
    (hown : s.vm.findClass own = some m.cls) (hlink : (Cond.methodLink own index y).before args s = true) (hstat : (Cond.static y).before args s = true) (hinit : (Cond.initialized y.cls).before args s = true)
    (hcode : (Cond.code y bytes maxL ret).before args s = true) (hy : y.cls ≠ "java/lang/invoke/MethodHandle" ∧ y.cls ≠ "java/lang/invoke/VarHandle")
    {W9 : Nat} {Pre : Pt → Array Value → Prop} {Post : Pt → Array Value → Option Value → Pt → Prop} {PostX : Pt → Array Value → Addr → Pt → Prop} (hK : vx_Back l R p e below s args y 3 W9 Pre Post PostX)
    {g : JFrame} (hg : g.method = m) (hsize : g.locals.size = c.maxLocals) {argsL rest : List Value} (hlen : ∀ sig, parseMethodDescriptor y.desc = some sig → argsL.length = sig.parameters.length)
    (hstack : g.stack = argsL.reverse ++ rest) (hW : 2 * g.monitorRoom + (rest.map fun v => v.category).sum ≤ W9) (hdg : decode c.code g.pc = .ok (.invokestatic index, 3))
    (hpre : ∀ vm₁, s.WarmedH vm₁ → Pre ⟨T.setVm vm₁, locs, cells, slots⟩ argsL.toArray) :
    (∃ (v : Option Value) (vm₁ : Vm) (B : Pt), s.WarmedH vm₁ ∧ Stand p l e R s m args below meth c B.U B.locs B.cells B.slots ∧ Post ⟨T.setVm vm₁, locs, cells, slots⟩ argsL.toArray v B ∧
      ∀ target, Steps p.tables e below (B.U.setTop { g with pc := g.pc + 3, stack := v.toList ++ rest }) target → Steps p.tables e below (T.setTop g) target) ∨
    (∃ (q : Addr) (vm₁ : Vm) (B : Pt), s.WarmedH vm₁ ∧ Stand p l e R s m args below meth c B.U B.locs B.cells B.slots ∧ PostX ⟨T.setVm vm₁, locs, cells, slots⟩ argsL.toArray q B ∧
      Steps p.tables e below (T.setTop g) ((B.U.setTop { g with stack := rest }).pushFrame (.throwing q))) := by
  obtain ⟨mk, hnamed⟩ := Cond.code_named hcode
  obtain ⟨methM, cM, hmethM, -, -, -, -, -, -, hsigM⟩ := Cond.code_spec hnamed hcode
  have hstatic : methM.isStatic = true := Cond.static_spec hnamed hmethM hstat
  obtain ⟨kP, hkP, -⟩ := className_of_methodNamed hnamed
  have hinitP : kP.init = .initialized := Cond.initialized_spec (findClass_of_methodNamed hnamed) hkP hinit
  obtain ⟨vm₁, X₁, hstep₁⟩ := X.invokestatic hexec hown hlink hnamed hmethM hstatic hkP hinitP hy (g := g) hg (argsL := argsL) (rest := rest) (hlen _ hsigM) hstack hdg
  rcases hK m meth c ⟨T.setVm vm₁, locs, cells, slots⟩ { g with stack := rest } (.invokestatic index) mk argsL.toArray X₁ hg hsize hdg hW (X₁.named hnamed) (hpre vm₁ X₁.warmed) with ⟨v, B, X', hpost, hsteps⟩ | ⟨q, B, X', hpost, hsteps⟩
  · exact Or.inl ⟨v, vm₁, B, X₁.warmed, X', hpost, fun target h => hstep₁ _ fun acts => by rw [doInvoke_state]; exact hsteps.trans h⟩
  · exact Or.inr ⟨q, vm₁, B, X₁.warmed, X', hpost, hstep₁ _ fun acts => by rw [doInvoke_state]; exact hsteps⟩
end Calls
theorem vx_cls {s : State} {T : State} {vm₁ : Vm} {E : String} {k : ClassId} (hW : s.WarmedH vm₁) (h : (T.setVm vm₁).vm.findClass E = some k) : s.vm.findClass E = some k := by
  have h1 : vm₁.findClass E = some k := h
  rw [hW.alike.findClass] at h1
  exact h1
/-- the method's frame g, with q thrown over it -/
def vx_W (p : Program) (l : Launch) (e : Env) (R : Room) (s : State) (m : MethodId) (args : Array Value) (below : List Frame) (meth : Method) (c : Code) (H : Heap) (locs : List Loc) (cells slots : Nat) (Q : State → Prop) (g : JFrame) (q : Addr) : Prop :=
  ∀ T : State, T.heap = H → Stand p l e R s m args below meth c T locs cells slots → ∃ t, Steps p.tables e below ((T.setTop g).pushFrame (.throwing q)) t ∧ Q t
def vx_Run (p : Program) (l : Launch) (e : Env) (R : Room) (s : State) (m : MethodId) (args : Array Value) (below : List Frame) (meth : Method) (c : Code) (H : Heap) (locs : List Loc) (cells slots mc ms : Nat) (g : JFrame) (rest : List Value) (Qa : State → Outcome → State → Prop) (XC : String → State → State → Prop) (free : Addr → Prop) : Prop :=
  ∀ T : State, T.heap = H → Stand p l e R s m args below meth c T locs cells slots →
    (∃ (v : Option Value) (st₀ t T' : State) (L : List Loc), st₀.heap = H ∧ Stand p l e R s m args below meth c T' (locs ++ L) (cells + mc) (slots + ms) ∧ (∀ q ∈ L, free q.base) ∧ T'.heap = t.heap ∧ T'.vm = t.vm ∧ Qa st₀ (.returned v) t ∧
      Goes p e below T g T' { g with pc := g.pc + 3, stack := v.toList ++ rest }) ∨
    (∃ (q : Addr) (st₀ t T' : State) (L : List Loc) (E : String) (ce : Cell), st₀.heap = H ∧ Stand p l e R s m args below meth c T' (locs ++ L) (cells + mc) (slots + ms) ∧ (∀ z ∈ L, free z.base) ∧ T'.heap = t.heap ∧ T'.vm = t.vm ∧ XC E st₀ t ∧ t.heap[q]? = some ce ∧ ce.vm = .none ∧ s.vm.findClass E = some ce.cls ∧
      Steps p.tables e below (T.setTop g) ((T'.setTop { g with stack := rest }).pushFrame (.throwing q)))
def vx_X {S : Type} (px : S → Prop) (B : String → S → State → Prop) (A : Nat → Prop) : String → State → State → Prop := fun E st t => ∃ u : S, px u ∧ B E u t ∧ va_F A st t
section Runs
variable {p : Program} {l : Launch} {e : Env} {R : Room} {s : State} {m : MethodId} {args : Array Value} {below : List Frame} {meth : Method} {c : Code} {H : Heap} {locs : List Loc} {cells slots : Nat}
variable {y : MethodName} {bytes cc : ByteArray} {maxL nL mc ms n index : Nat} {ret : Option FieldType} {ws : List Cond} {rm : Room} {Pc : Array Value → State → Prop} {Qc : Array Value → State → Outcome → State → Prop} {XC : String → State → State → Prop} {free : Addr → Prop} {Ts : List Cond} {own C : String} {b : Addr} {As rest : List Value} {g : JFrame}
theorem vx_callBack (cb : CallB R s args own index y bytes maxL ret ws rm mc ms n) (hM : vx_Met l y ws rm Pc Qc XC mc ms free) (hbl : FrameBlind Pc) : vx_Back l R p e below s args y 3 8 (PreOf R mc ms Pc) (PostOf Qc mc ms free) (vx_Post XC mc ms free) := by
  obtain ⟨hrc, hrs, hfr, hlo, hws, hcw, -, hini, -⟩ := cb
  exact vx_back (bytes := bytes) (maxL := maxL) (ret := ret) hM hbl hrc hrs hfr hlo hws hcw (fun a' U hW => word_at hW (Or.inl (by first | rfl | simp [Cond.onTables, Cond.keeps, Cond.steady])) hini)
theorem vx_runV (S : CallFix p m c cc nL s args Ts own) (hM : vx_Met l y ws rm Pc Qc XC mc ms free) (cw : CallW R s args own C index y bytes maxL ret ws rm mc ms n) (hp : PreV s H C b Pc As)
    (hg : g.method = m) (hn : As.length = n) (hsize : g.locals.size = nL) (hstack : g.stack = As.reverse ++ .ref b :: rest) (hW : 2 * g.monitorRoom + (rest.map fun v => v.category).sum ≤ 8) (hdg : decode cc g.pc = .ok (.invokevirtual index, 3)) (hf : cells + mc ≤ R.cells ∧ slots + ms ≤ R.slots) :
    vx_Run p l e R s m args below meth c H locs cells slots mc ms g rest (Qc (Value.ref b :: As).toArray) XC free := by
  have hK : vx_Back l R p e below s args y 3 8 (PreOf R mc ms Pc) (PostOf Qc mc ms free) (vx_Post XC mc ms free) := vx_callBack cw.1 hM hp.1
  obtain ⟨⟨-, -, -, -, -, -, hcode, -, hy, hlen, hl⟩, hin, hse⟩ := cw
  obtain ⟨hx, hb, hml, ho, -⟩ := S
  obtain ⟨-, ⟨cellB, hcB, hoB, hclB⟩, hPc⟩ := hp
  intro T hT X
  rcases vx_callV X hx (C := C) (bytes := bytes) (maxL := maxL) (ret := ret) ho hl hin hse hcode hy hK (by rw [hT]; exact hcB) hoB hclB hg (hsize.trans hml.symm) (argsL := As) (rest := rest) (fun sig h => hn.trans (hlen sig h)) hstack hW (by rw [hb]; exact hdg)
    (fun vm₁ hW₁ => ⟨hf.1, hf.2, hPc (T.setVm vm₁) hT hW₁⟩) with ⟨v, vm₁, ⟨U', l2, c2, s2⟩, hW₁, X', ⟨g', mk, t, L, e1, e2, hq, h1, hL, h2, h3⟩, st⟩ | ⟨q, vm₁, ⟨U', l2, c2, s2⟩, hW₁, X', ⟨g', mk, t, L, E, ce, e1, e2, hq, hce, hcv, hcl, h1, hL, h2, h3⟩, st⟩
  · dsimp only [Pt.U, Pt.locs, Pt.cells, Pt.slots] at X' e1 e2 h1 h2 h3 st
    subst h1; subst h2; subst h3
    exact Or.inl ⟨v, (T.setVm vm₁).calling g' mk (Value.ref b :: As).toArray, t, U', L, hT, X', hL, e1, e2, hq, st⟩
  · dsimp only [Pt.U, Pt.locs, Pt.cells, Pt.slots] at X' e1 e2 h1 h2 h3 st hcl
    subst h1; subst h2; subst h3
    exact Or.inr ⟨q, (T.setVm vm₁).calling g' mk (Value.ref b :: As).toArray, t, U', L, E, ce, hT, X', hL, e1, e2, hq, hce, hcv, vx_cls hW₁ hcl, st⟩
theorem vx_runS (S : CallFix p m c cc nL s args Ts own) (hM : vx_Met l y ws rm Pc Qc XC mc ms free) (cw : CallB R s args own index y bytes maxL ret ws rm mc ms n ∧ (Cond.static y).before args s = true) (hp : PreS s H Pc As)
    (hg : g.method = m) (hn : As.length = n) (hsize : g.locals.size = nL) (hstack : g.stack = As.reverse ++ rest) (hW : 2 * g.monitorRoom + (rest.map fun v => v.category).sum ≤ 8) (hdg : decode cc g.pc = .ok (.invokestatic index, 3)) (hf : cells + mc ≤ R.cells ∧ slots + ms ≤ R.slots) :
    vx_Run p l e R s m args below meth c H locs cells slots mc ms g rest (Qc As.toArray) XC free := by
  have hK : vx_Back l R p e below s args y 3 8 (PreOf R mc ms Pc) (PostOf Qc mc ms free) (vx_Post XC mc ms free) := vx_callBack cw.1 hM hp.1
  obtain ⟨⟨-, -, -, -, -, -, hcode, hini, hy, hlen, hl⟩, hstt⟩ := cw
  obtain ⟨hx, hb, hml, ho, -⟩ := S
  intro T hT X
  rcases vx_callS X hx (bytes := bytes) (maxL := maxL) (ret := ret) ho hl hstt hini hcode hy hK hg (hsize.trans hml.symm) (argsL := As) (rest := rest) (fun sig h => hn.trans (hlen sig h)) hstack hW (by rw [hb]; exact hdg)
    (fun vm₁ hW₁ => ⟨hf.1, hf.2, hp.2 (T.setVm vm₁) hT hW₁⟩) with ⟨v, vm₁, ⟨U', l2, c2, s2⟩, hW₁, X', ⟨g', mk, t, L, e1, e2, hq, h1, hL, h2, h3⟩, st⟩ | ⟨q, vm₁, ⟨U', l2, c2, s2⟩, hW₁, X', ⟨g', mk, t, L, E, ce, e1, e2, hq, hce, hcv, hcl, h1, hL, h2, h3⟩, st⟩
  · dsimp only [Pt.U, Pt.locs, Pt.cells, Pt.slots] at X' e1 e2 h1 h2 h3 st
    subst h1; subst h2; subst h3
    exact Or.inl ⟨v, (T.setVm vm₁).calling g' mk As.toArray, t, U', L, hT, X', hL, e1, e2, hq, st⟩
  · dsimp only [Pt.U, Pt.locs, Pt.cells, Pt.slots] at X' e1 e2 h1 h2 h3 st hcl
    subst h1; subst h2; subst h3
    exact Or.inr ⟨q, (T.setVm vm₁).calling g' mk As.toArray, t, U', L, E, ce, hT, X', hL, e1, e2, hq, hce, hcv, vx_cls hW₁ hcl, st⟩
end Runs
section Rows
variable {p : Program} {l : Launch} {e : Env} {R : Room} {s : State} {m : MethodId} {args : Array Value} {below : List Frame} {meth : Method} {c : Code} {H : Heap} {locs : List Loc} {cells slots : Nat} {Q : State → Prop}
variable {mc ms : Nat} {free : Addr → Prop} {A0 A1 : Nat → Prop} {H0 : Heap} {a : Array Value} {pc : Nat} {ls : Array Slot} {st0 rest : List Value}
theorem vx_keep {st₀ t T' : State} {L : List Loc} (h0 : st₀.heap = H) (e1 : T'.heap = t.heap) (hS : va_S A0 H0 H locs) (hA : ∀ q, q < H.size → A1 q → A0 q) (hf : ∀ q, free q → A0 q) (hL : ∀ q ∈ L, free q.base) (hF : va_F A1 st₀ t) :
    H.size ≤ T'.heap.size ∧ (∀ q : Nat, q < H.size → ¬ A1 q → T'.heap[q]? = H[q]?) ∧ va_S A0 H0 T'.heap (locs ++ L) := by
  obtain ⟨hz, hk⟩ := hF
  rw [h0] at hz hk
  exact ⟨by rw [e1]; exact hz, fun q h1 h2 => by rw [e1]; exact hk q h1 h2,
    ⟨Nat.le_trans hS.1 (by rw [e1]; exact hz), fun q h1 h2 => by rw [e1, hk q (Nat.lt_of_lt_of_le h1 hS.1) (fun z => h2 (hA q (Nat.lt_of_lt_of_le h1 hS.1) z))]; exact hS.2.1 q h1 h2, fun q hq => by
      rcases List.mem_append.mp hq with h | h
      · exact hS.2.2 q h
      · exact hf _ (hL q h)⟩⟩
theorem vx_calli {S SX : Type} {post : Int32 → S → Prop} {px : SX → Prop} {B : S → State → Prop} {BX : String → SX → State → Prop} {AX : Nat → Prop} (hr : vx_Run p l e R s m args below meth c H locs cells slots mc ms (F0 m pc ls st0) rest (va_Qi post B A1 a) (vx_X px BX AX) free) (hS : va_S A0 H0 H locs) (hA : ∀ q, q < H.size → A1 q → A0 q) (hf : ∀ q, free q → A0 q) (hAX : ∀ q, q < H.size → AX q → A0 q)
    (kx : ∀ (E : String) (ce : Cell) (q9 : Addr) (u : SX) (t : State) (H1 : Heap) (locs1 : List Loc), t.heap = H1 → s.vm.Alike t.vm → px u → BX E u t → H.size ≤ H1.size → (∀ q : Nat, q < H.size → ¬ AX q → H1[q]? = H[q]?) → va_S A0 H0 H1 locs1 → H1[q9]? = some ce → ce.vm = .none → s.vm.findClass E = some ce.cls → vx_W p l e R s m args below meth c H1 locs1 (cells + mc) (slots + ms) Q (F0 m pc ls rest) q9)
    (kk : ∀ (r : Int32) (u : S) (t : State) (H1 : Heap) (locs1 : List Loc), t.heap = H1 → s.vm.Alike t.vm → post r u → B u t → H.size ≤ H1.size → (∀ q : Nat, q < H.size → ¬ A1 q → H1[q]? = H[q]?) → va_S A0 H0 H1 locs1 → W p l e R s m args below meth c H1 locs1 (cells + mc) (slots + ms) Q (F0 m (pc + 3) ls (.int r :: rest))) : W p l e R s m args below meth c H locs cells slots Q (F0 m pc ls st0) := by
  intro T hT X
  rcases hr T hT X with ⟨v, st₀, t, T', L, h0, X', hL, e1, e2, ⟨⟨r, u, hv, hp, hb⟩, hF⟩, st⟩ | ⟨q, st₀, t, T', L, E, ce, h0, X', hL, e1, e2, ⟨u, hp, hb, hF⟩, hce, hcv, hcl, st⟩
  · cases hv
    obtain ⟨k1, k2, k3⟩ := vx_keep h0 e1 hS hA hf hL hF
    obtain ⟨t2, a1, b1⟩ := kk r u t T'.heap (locs ++ L) e1.symm (by rw [← e2]; exact X'.warmed.alike) hp hb k1 k2 k3 T' rfl X'
    exact ⟨t2, st t2 a1, b1⟩
  · obtain ⟨k1, k2, k3⟩ := vx_keep h0 e1 hS hAX hf hL hF
    obtain ⟨t2, a1, b1⟩ := kx E ce q u t T'.heap (locs ++ L) e1.symm (by rw [← e2]; exact X'.warmed.alike) hp hb k1 k2 k3 (by rw [e1]; exact hce) hcv hcl T' rfl X'
    exact ⟨t2, st.trans a1, b1⟩
theorem vx_calll {S SX : Type} {post : Int64 → S → Prop} {px : SX → Prop} {B : S → State → Prop} {BX : String → SX → State → Prop} {AX : Nat → Prop} (hr : vx_Run p l e R s m args below meth c H locs cells slots mc ms (F0 m pc ls st0) rest (va_Ql post B A1 a) (vx_X px BX AX) free) (hS : va_S A0 H0 H locs) (hA : ∀ q, q < H.size → A1 q → A0 q) (hf : ∀ q, free q → A0 q) (hAX : ∀ q, q < H.size → AX q → A0 q)
    (kx : ∀ (E : String) (ce : Cell) (q9 : Addr) (u : SX) (t : State) (H1 : Heap) (locs1 : List Loc), t.heap = H1 → s.vm.Alike t.vm → px u → BX E u t → H.size ≤ H1.size → (∀ q : Nat, q < H.size → ¬ AX q → H1[q]? = H[q]?) → va_S A0 H0 H1 locs1 → H1[q9]? = some ce → ce.vm = .none → s.vm.findClass E = some ce.cls → vx_W p l e R s m args below meth c H1 locs1 (cells + mc) (slots + ms) Q (F0 m pc ls rest) q9)
    (kk : ∀ (r : Int64) (u : S) (t : State) (H1 : Heap) (locs1 : List Loc), t.heap = H1 → s.vm.Alike t.vm → post r u → B u t → H.size ≤ H1.size → (∀ q : Nat, q < H.size → ¬ A1 q → H1[q]? = H[q]?) → va_S A0 H0 H1 locs1 → W p l e R s m args below meth c H1 locs1 (cells + mc) (slots + ms) Q (F0 m (pc + 3) ls (.long r :: rest))) : W p l e R s m args below meth c H locs cells slots Q (F0 m pc ls st0) := by
  intro T hT X
  rcases hr T hT X with ⟨v, st₀, t, T', L, h0, X', hL, e1, e2, ⟨⟨r, u, hv, hp, hb⟩, hF⟩, st⟩ | ⟨q, st₀, t, T', L, E, ce, h0, X', hL, e1, e2, ⟨u, hp, hb, hF⟩, hce, hcv, hcl, st⟩
  · cases hv
    obtain ⟨k1, k2, k3⟩ := vx_keep h0 e1 hS hA hf hL hF
    obtain ⟨t2, a1, b1⟩ := kk r u t T'.heap (locs ++ L) e1.symm (by rw [← e2]; exact X'.warmed.alike) hp hb k1 k2 k3 T' rfl X'
    exact ⟨t2, st t2 a1, b1⟩
  · obtain ⟨k1, k2, k3⟩ := vx_keep h0 e1 hS hAX hf hL hF
    obtain ⟨t2, a1, b1⟩ := kx E ce q u t T'.heap (locs ++ L) e1.symm (by rw [← e2]; exact X'.warmed.alike) hp hb k1 k2 k3 (by rw [e1]; exact hce) hcv hcl T' rfl X'
    exact ⟨t2, st.trans a1, b1⟩
theorem vx_callf {S SX : Type} {post : UInt32 → S → Prop} {px : SX → Prop} {B : S → State → Prop} {BX : String → SX → State → Prop} {AX : Nat → Prop} (hr : vx_Run p l e R s m args below meth c H locs cells slots mc ms (F0 m pc ls st0) rest (va_Qf post B A1 a) (vx_X px BX AX) free) (hS : va_S A0 H0 H locs) (hA : ∀ q, q < H.size → A1 q → A0 q) (hf : ∀ q, free q → A0 q) (hAX : ∀ q, q < H.size → AX q → A0 q)
    (kx : ∀ (E : String) (ce : Cell) (q9 : Addr) (u : SX) (t : State) (H1 : Heap) (locs1 : List Loc), t.heap = H1 → s.vm.Alike t.vm → px u → BX E u t → H.size ≤ H1.size → (∀ q : Nat, q < H.size → ¬ AX q → H1[q]? = H[q]?) → va_S A0 H0 H1 locs1 → H1[q9]? = some ce → ce.vm = .none → s.vm.findClass E = some ce.cls → vx_W p l e R s m args below meth c H1 locs1 (cells + mc) (slots + ms) Q (F0 m pc ls rest) q9)
    (kk : ∀ (r : UInt32) (u : S) (t : State) (H1 : Heap) (locs1 : List Loc), t.heap = H1 → s.vm.Alike t.vm → post r u → B u t → H.size ≤ H1.size → (∀ q : Nat, q < H.size → ¬ A1 q → H1[q]? = H[q]?) → va_S A0 H0 H1 locs1 → W p l e R s m args below meth c H1 locs1 (cells + mc) (slots + ms) Q (F0 m (pc + 3) ls (.float r :: rest))) : W p l e R s m args below meth c H locs cells slots Q (F0 m pc ls st0) := by
  intro T hT X
  rcases hr T hT X with ⟨v, st₀, t, T', L, h0, X', hL, e1, e2, ⟨⟨r, u, hv, hp, hb⟩, hF⟩, st⟩ | ⟨q, st₀, t, T', L, E, ce, h0, X', hL, e1, e2, ⟨u, hp, hb, hF⟩, hce, hcv, hcl, st⟩
  · cases hv
    obtain ⟨k1, k2, k3⟩ := vx_keep h0 e1 hS hA hf hL hF
    obtain ⟨t2, a1, b1⟩ := kk r u t T'.heap (locs ++ L) e1.symm (by rw [← e2]; exact X'.warmed.alike) hp hb k1 k2 k3 T' rfl X'
    exact ⟨t2, st t2 a1, b1⟩
  · obtain ⟨k1, k2, k3⟩ := vx_keep h0 e1 hS hAX hf hL hF
    obtain ⟨t2, a1, b1⟩ := kx E ce q u t T'.heap (locs ++ L) e1.symm (by rw [← e2]; exact X'.warmed.alike) hp hb k1 k2 k3 (by rw [e1]; exact hce) hcv hcl T' rfl X'
    exact ⟨t2, st.trans a1, b1⟩
theorem vx_calld {S SX : Type} {post : UInt64 → S → Prop} {px : SX → Prop} {B : S → State → Prop} {BX : String → SX → State → Prop} {AX : Nat → Prop} (hr : vx_Run p l e R s m args below meth c H locs cells slots mc ms (F0 m pc ls st0) rest (va_Qd post B A1 a) (vx_X px BX AX) free) (hS : va_S A0 H0 H locs) (hA : ∀ q, q < H.size → A1 q → A0 q) (hf : ∀ q, free q → A0 q) (hAX : ∀ q, q < H.size → AX q → A0 q)
    (kx : ∀ (E : String) (ce : Cell) (q9 : Addr) (u : SX) (t : State) (H1 : Heap) (locs1 : List Loc), t.heap = H1 → s.vm.Alike t.vm → px u → BX E u t → H.size ≤ H1.size → (∀ q : Nat, q < H.size → ¬ AX q → H1[q]? = H[q]?) → va_S A0 H0 H1 locs1 → H1[q9]? = some ce → ce.vm = .none → s.vm.findClass E = some ce.cls → vx_W p l e R s m args below meth c H1 locs1 (cells + mc) (slots + ms) Q (F0 m pc ls rest) q9)
    (kk : ∀ (r : UInt64) (u : S) (t : State) (H1 : Heap) (locs1 : List Loc), t.heap = H1 → s.vm.Alike t.vm → post r u → B u t → H.size ≤ H1.size → (∀ q : Nat, q < H.size → ¬ A1 q → H1[q]? = H[q]?) → va_S A0 H0 H1 locs1 → W p l e R s m args below meth c H1 locs1 (cells + mc) (slots + ms) Q (F0 m (pc + 3) ls (.double r :: rest))) : W p l e R s m args below meth c H locs cells slots Q (F0 m pc ls st0) := by
  intro T hT X
  rcases hr T hT X with ⟨v, st₀, t, T', L, h0, X', hL, e1, e2, ⟨⟨r, u, hv, hp, hb⟩, hF⟩, st⟩ | ⟨q, st₀, t, T', L, E, ce, h0, X', hL, e1, e2, ⟨u, hp, hb, hF⟩, hce, hcv, hcl, st⟩
  · cases hv
    obtain ⟨k1, k2, k3⟩ := vx_keep h0 e1 hS hA hf hL hF
    obtain ⟨t2, a1, b1⟩ := kk r u t T'.heap (locs ++ L) e1.symm (by rw [← e2]; exact X'.warmed.alike) hp hb k1 k2 k3 T' rfl X'
    exact ⟨t2, st t2 a1, b1⟩
  · obtain ⟨k1, k2, k3⟩ := vx_keep h0 e1 hS hAX hf hL hF
    obtain ⟨t2, a1, b1⟩ := kx E ce q u t T'.heap (locs ++ L) e1.symm (by rw [← e2]; exact X'.warmed.alike) hp hb k1 k2 k3 (by rw [e1]; exact hce) hcv hcl T' rfl X'
    exact ⟨t2, st.trans a1, b1⟩
theorem vx_callv {S SX : Type} {post : S → Prop} {px : SX → Prop} {B : S → State → Prop} {BX : String → SX → State → Prop} {AX : Nat → Prop} (hr : vx_Run p l e R s m args below meth c H locs cells slots mc ms (F0 m pc ls st0) rest (va_Qv post B A1 a) (vx_X px BX AX) free) (hS : va_S A0 H0 H locs) (hA : ∀ q, q < H.size → A1 q → A0 q) (hf : ∀ q, free q → A0 q) (hAX : ∀ q, q < H.size → AX q → A0 q)
    (kx : ∀ (E : String) (ce : Cell) (q9 : Addr) (u : SX) (t : State) (H1 : Heap) (locs1 : List Loc), t.heap = H1 → s.vm.Alike t.vm → px u → BX E u t → H.size ≤ H1.size → (∀ q : Nat, q < H.size → ¬ AX q → H1[q]? = H[q]?) → va_S A0 H0 H1 locs1 → H1[q9]? = some ce → ce.vm = .none → s.vm.findClass E = some ce.cls → vx_W p l e R s m args below meth c H1 locs1 (cells + mc) (slots + ms) Q (F0 m pc ls rest) q9)
    (kk : ∀ (u : S) (t : State) (H1 : Heap) (locs1 : List Loc), t.heap = H1 → s.vm.Alike t.vm → post u → B u t → H.size ≤ H1.size → (∀ q : Nat, q < H.size → ¬ A1 q → H1[q]? = H[q]?) → va_S A0 H0 H1 locs1 → W p l e R s m args below meth c H1 locs1 (cells + mc) (slots + ms) Q (F0 m (pc + 3) ls (rest))) : W p l e R s m args below meth c H locs cells slots Q (F0 m pc ls st0) := by
  intro T hT X
  rcases hr T hT X with ⟨v, st₀, t, T', L, h0, X', hL, e1, e2, ⟨⟨u, hv, hp, hb⟩, hF⟩, st⟩ | ⟨q, st₀, t, T', L, E, ce, h0, X', hL, e1, e2, ⟨u, hp, hb, hF⟩, hce, hcv, hcl, st⟩
  · cases hv
    obtain ⟨k1, k2, k3⟩ := vx_keep h0 e1 hS hA hf hL hF
    obtain ⟨t2, a1, b1⟩ := kk u t T'.heap (locs ++ L) e1.symm (by rw [← e2]; exact X'.warmed.alike) hp hb k1 k2 k3 T' rfl X'
    exact ⟨t2, st t2 a1, b1⟩
  · obtain ⟨k1, k2, k3⟩ := vx_keep h0 e1 hS hAX hf hL hF
    obtain ⟨t2, a1, b1⟩ := kx E ce q u t T'.heap (locs ++ L) e1.symm (by rw [← e2]; exact X'.warmed.alike) hp hb k1 k2 k3 (by rw [e1]; exact hce) hcv hcl T' rfl X'
    exact ⟨t2, st.trans a1, b1⟩
/-- caught by the row x of this method's table; the rows ahead don't take it -/
theorem vx_catch {own name : String} {E : String} {ce : Cell} {q : Addr} (hown : s.vm.findClass own = some m.cls) (pre : List ExceptionTableEntry) (x : ExceptionTableEntry) (suf : List ExceptionTableEntry) (hsplit : c.exceptionTable.toList = pre ++ x :: suf)
    (hpass : ∀ z ∈ pre, covers z pc = false ∨ (z.catchType ≠ 0 ∧ ∃ nm : String, (Cond.classLink own z.catchType nm).before args s = true ∧ va_Nc E nm s)) (hx : covers x pc = true) (h0 : x.catchType ≠ 0)
    (hlink : (Cond.classLink own x.catchType name).before args s = true) (hcast : (Cond.castable E name).before args s = true) (hcell : H[q]? = some ce) (hv : ce.vm = .none) (hcl : s.vm.findClass E = some ce.cls)
    (kk : W p l e R s m args below meth c H locs cells slots Q (F0 m x.handlerPc ls [.ref q])) : vx_W p l e R s m args below meth c H locs cells slots Q (F0 m pc ls rest) q := by
  intro T hT X
  have hpl : e.platform.magicAccessors = ({} : Platform).magicAccessors := by rw [X.admits.platform]
  obtain ⟨c3, c4, hc3, hc4, hasg⟩ := Cond.castable_spec hcast
  cases Option.some.inj (hc3.symm.trans hcl)
  obtain ⟨c5, hc5, hcl5⟩ := Cond.classLink_spec hown hlink e.platform hpl
  cases Option.some.inj (hc4.symm.trans hc5)
  obtain ⟨vm', X', st⟩ := X.thenCaughtThrough q (g := F0 m pc ls rest) rfl (Steps.refl _) (by rw [hT]; exact hcell) (by rw [hv]; rfl) (by obtain ⟨k9, h9, -⟩ := Vm.findClass_spec hcl; exact ⟨k9, h9⟩) pre x suf hsplit
    (fun z hz => by
      rcases hpass z hz with h | ⟨hz0, nm, hl1, hn1⟩
      · exact Or.inl h
      · obtain ⟨c6, hc6, hcl6⟩ := Cond.classLink_spec hown hl1 e.platform hpl
        obtain ⟨a8, b8, h1, h2, h3⟩ := hn1
        cases Option.some.inj (h1.symm.trans hcl)
        cases Option.some.inj (h2.symm.trans hc6)
        exact Or.inr ⟨hz0, _, hcl6, h3⟩) hx (Or.inr ⟨h0, c4, hcl5, hasg⟩)
  obtain ⟨t, a1, b1⟩ := kk (T.setVm vm') hT X'
  exact ⟨t, st.trans a1, b1⟩
end Rows
section Ends
variable {p : Program} {l : Launch} {e : Env} {R : Room} {s : State} {m : MethodId} {args : Array Value} {below : List Frame} {meth : Method} {c : Code} {H : Heap} {locs : List Loc} {cells slots : Nat} {Q : State → Prop}
variable {mc ms : Nat} {free : Addr → Prop} {A0 A1 : Nat → Prop} {H0 : Heap} {a : Array Value} {ls : Array Slot} {st0 rest : List Value}
variable {Qc : Array Value → State → Outcome → State → Prop} {XC : String → State → State → Prop}
/-- what a body that may throw owes at its end -/
def vx_MQ (below : List Frame) (Qc : Array Value → State → Outcome → State → Prop) (XC : String → State → State → Prop) (a : Array Value) (s : State) (mc ms : Nat) (free : Addr → Prop) : State → Prop := fun t =>
  ∃ o, t.status = .running ∧ Ended t below o ∧ vx_Q Qc XC mc ms free a s o t
theorem vx_ret {g : JFrame} {mc ms : Nat} (k : W p l e R s m args below meth c H locs cells slots (MQ below Qc args s mc ms free) g) : W p l e R s m args below meth c H locs cells slots (vx_MQ below Qc XC args s mc ms free) g := by
  intro T hT X
  obtain ⟨t, a1, o, b1, b2, b3, b4⟩ := k T hT X
  exact ⟨t, a1, o, b1, b2, Or.inl ⟨b3, b4⟩⟩
/-- not caught here: it goes on to the caller -/
theorem vx_widen {g : JFrame} {q : Addr} {k n : Nat} (h1 : cells ≤ k) (h2 : slots ≤ n) (kk : vx_W p l e R s m args below meth c H locs k n Q g q) : vx_W p l e R s m args below meth c H locs cells slots Q g q := fun T hT X => kk T hT (stand_widen X h1 h2)
theorem vx_out {pc : Nat} {E : String} {ce : Cell} {q : Addr} {mc ms : Nat} (hout : ∀ x ∈ c.exceptionTable.toList, covers x pc = false) (hlocks : meth.locks = false) (hcell : H[q]? = some ce) (hv : ce.vm = .none) (hcl : s.vm.findClass E = some ce.cls)
    (hx : ∀ t : State, t.heap = H → s.vm.Alike t.vm → XC E s t) (hf : ∀ z ∈ locs, free z.base) (hc : cells ≤ mc) (hs : slots ≤ ms) :
    vx_W p l e R s m args below meth c H locs cells slots (vx_MQ below Qc XC args s mc ms free) (F0 m pc ls rest) q := by
  intro T hT X
  obtain ⟨st1, hrun, hend, hW, hsm⟩ := X.leaveThrown q (g := F0 m pc ls rest) rfl rfl rfl hout hlocks
  have hcell9 : (T.setFrames (.throwing q :: below)).heap[q]? = some ce := by
    show T.heap[q]? = some ce
    rw [hT]; exact hcell
  exact ⟨_, st1, .threw q, hrun, hend, Or.inr ⟨q, rfl, E, ce, locs, hx _ hT hW.alike, hcell9, hv, hcl, hW, hsm.mono hc hs, hf⟩⟩
theorem vx_frame {U : State} {k n : Nat} (h : s.sameButNew ({ U with vm := s.vm } : State) locs k n) : s.heap.size ≤ U.heap.size ∧ ∀ q : Nat, q < s.heap.size → (∀ z ∈ locs, z.base ≠ q) → U.heap[q]? = s.heap[q]? := by
  obtain ⟨-, h2, -, -, -, h6⟩ := h
  refine ⟨h2, fun q hq hz => ?_⟩
  obtain ⟨c9, e1, e2, e3, e4⟩ := h6 q _ (Array.getElem?_eq_getElem hq)
  have hs : c9.slots = (s.heap[q]).slots := Array.ext_getElem? fun i => e4 i fun hm => hz _ hm rfl
  have h9 : c9 = s.heap[q] := by
    rw [hs] at e2
    exact e2
  have e5 : U.heap[q]? = some c9 := e1
  rw [e5, h9, Array.getElem?_eq_getElem hq]
/-- the words of a throw but the four that speak of the heap -/
def vx_no (w : Cond) : Bool := decide (w ≠ .isRef (.static Bundle.tN "UNASSIGNED_STACK" Bundle.steD)) && decide (w ≠ .isRef (.static Bundle.tN "SUPPRESSED_SENTINEL" Bundle.listD)) && decide (w ≠ .laysStatic Bundle.tN "UNASSIGNED_STACK" Bundle.steD) && decide (w ≠ .laysStatic Bundle.tN "SUPPRESSED_SENTINEL" Bundle.listD)
def vx_at0 (own : String) (ic : Nat) (X : String) (names : List String) : List Cond := (Bundle.ownAtoms0 own ic X names).filter vx_no
def vx_atS (own : String) (ic : Nat) (X : String) (names : List String) : List Cond := (Bundle.ownAtoms own ic X names).filter vx_no
/-- a word that the tables alone decide, or a good one -/
def vx_ot (w : Cond) : Bool := w.onTables || goodWord w
theorem vx_ot_at {args a' : Array Value} {s U : State} {w : Cond} (hW : s.WarmedH U.vm) (hvm : s.vm = U.vm) (hg : vx_ot w = true) (h : w.before args s = true) : w.before a' U = true := by
  simp only [vx_ot, Bool.or_eq_true] at hg
  rcases hg with hg | hg
  · exact va_tabs hg hvm h
  · exact word_at hW (good_of_word hg) h
/-- a list's words: the good ones out of the method's own list, the others by premises of their own -/
theorem vx_hat {args : Array Value} {s : State} {L B : List Cond} (h1 : ∀ w ∈ L.filter goodWord, w.before args s = true) (h2 : ∀ w ∈ L.filter (fun w => !goodWord w), w ∈ B) (h3 : ∀ w ∈ B, w.before args s = true) : ∀ w ∈ L, w.before args s = true := by
  intro w hw
  by_cases g : goodWord w = true
  · exact h1 w (List.mem_filter.mpr ⟨hw, g⟩)
  · refine h3 w (h2 w (List.mem_filter.mpr ⟨hw, ?_⟩))
    show (!goodWord w) = true
    cases hgw : goodWord w
    · rfl
    · exact absurd hgw g
theorem vx_c {args : Array Value} {s : State} {w : Cond} {B : List Cond} (h : w.before args s = true) (t : ∀ w ∈ B, w.before args s = true) : ∀ w' ∈ w :: B, w'.before args s = true := fun w' h' => (List.mem_cons.mp h').elim (fun e => by rw [e]; exact h) (t w')
theorem vx_n {args : Array Value} {s : State} : ∀ w ∈ ([] : List Cond), w.before args s = true := fun _ h => nomatch h
theorem vx_own {args : Array Value} {s : State} {L : List Cond} (h1 : ∀ w ∈ L.filter vx_no, w.before args s = true)
    (hU : (Cond.isRef (.static Bundle.tN "UNASSIGNED_STACK" Bundle.steD)).before args s = true) (hN : (Cond.isRef (.static Bundle.tN "SUPPRESSED_SENTINEL" Bundle.listD)).before args s = true)
    (lU : (Cond.laysStatic Bundle.tN "UNASSIGNED_STACK" Bundle.steD).before args s = true) (lN : (Cond.laysStatic Bundle.tN "SUPPRESSED_SENTINEL" Bundle.listD).before args s = true) : ∀ w ∈ L, w.before args s = true := by
  intro w hw
  by_cases e1 : w = .isRef (.static Bundle.tN "UNASSIGNED_STACK" Bundle.steD)
  · rw [e1]; exact hU
  · by_cases e2 : w = .isRef (.static Bundle.tN "SUPPRESSED_SENTINEL" Bundle.listD)
    · rw [e2]; exact hN
    · by_cases e3 : w = .laysStatic Bundle.tN "UNASSIGNED_STACK" Bundle.steD
      · rw [e3]; exact lU
      · by_cases e4 : w = .laysStatic Bundle.tN "SUPPRESSED_SENTINEL" Bundle.listD
        · rw [e4]; exact lN
        · exact h1 w (List.mem_filter.mpr ⟨hw, by unfold vx_no; rw [decide_eq_true e1, decide_eq_true e2, decide_eq_true e3, decide_eq_true e4]; rfl⟩)
/-- where a static field lies, its class's statics cell in H -/
def vx_L (C n d : String) (A : Nat → Prop) (U : State) (H : Heap) : Prop := ∃ (c : ClassId) (k : Class) (i : Nat) (f : Field) (a : Nat) (cell : Cell), U.vm.findClass C = some c ∧ U.fieldFound? C n d = some (c, k, i, f) ∧ f.isStatic = true ∧ k.statics = some a ∧ H[a]? = some cell ∧ cell.vm.isStatics = true ∧ cell.cls = c ∧ f.slot < cell.slots.size ∧ k.staticTypes[f.slot]? = some f.type ∧ ¬ A a
theorem vx_L.moved {C n d : String} {A : Nat → Prop} {u U : State} {H : Heap} (hvm : u.vm.Alike U.vm) (h : vx_L C n d A u H) : vx_L C n d A U H := by
  obtain ⟨c, k, i, f, a, cell, h1, h2, h3, h4, h5, h6, h7, h8, h9, h10⟩ := h
  obtain ⟨k', hi', he⟩ := State.fieldFound?_setVm hvm h2
  exact ⟨c, k', i, f, a, cell, by rw [hvm.findClass]; exact h1, hi', h3, by rw [he]; exact h4, h5, h6, h7, h8, by rw [he]; exact h9, h10⟩
theorem vx_L.kept {C n d : String} {A : Nat → Prop} {U : State} {H H1 : Heap} (h : vx_L C n d A U H) (hq : ∀ a : Nat, a < H.size → ¬ A a → H1[a]? = H[a]?) : vx_L C n d A U H1 := by
  obtain ⟨c, k, i, f, a, cell, h1, h2, h3, h4, h5, h6, h7, h8, h9, h10⟩ := h
  exact ⟨c, k, i, f, a, cell, h1, h2, h3, h4, by rw [hq a (Array.getElem?_eq_some_iff.mp h5).1 h10]; exact h5, h6, h7, h8, h9, h10⟩
theorem vx_L.narrow {C n d : String} {A B : Nat → Prop} {U : State} {H : Heap} (h : vx_L C n d A U H) (hAB : ∀ q, B q → A q) : vx_L C n d B U H := by
  obtain ⟨c, k, i, f, a, cell, h1, h2, h3, h4, h5, h6, h7, h8, h9, h10⟩ := h
  exact ⟨c, k, i, f, a, cell, h1, h2, h3, h4, h5, h6, h7, h8, h9, fun z => h10 (hAB _ z)⟩
theorem vx_L.word {C n d : String} {A : Nat → Prop} {s : State} {args : Array Value} (h : vx_L C n d A s s.heap) : (Cond.laysStatic C n d).before args s = true := by
  obtain ⟨c, k, i, f, a, cell, h1, h2, h3, h4, h5, h6, h7, h8, h9, -⟩ := h
  show (Cond.laysStatic C n d).holds args s none s [] = true
  exact Cond.laysStatic_of h1 h2 h3 h4 h5 h6 h7 h8 h9
/-- .. and what it holds: null or some reference -/
def vx_Zq (C n d : String) (A : Nat → Prop) (U : State) (H : Heap) : Prop := va_Zq C n d A U H ∧ vx_L C n d A U H
theorem vx_Zq.moved {C n d : String} {A : Nat → Prop} {u U : State} {H : Heap} (hvm : u.vm.Alike U.vm) (h : vx_Zq C n d A u H) : vx_Zq C n d A U H := ⟨va_Zq.moved hvm h.1, vx_L.moved hvm h.2⟩
theorem vx_Zq.kept {C n d : String} {A : Nat → Prop} {U : State} {H H1 : Heap} (h : vx_Zq C n d A U H) (hq : ∀ a : Nat, a < H.size → ¬ A a → H1[a]? = H[a]?) : vx_Zq C n d A U H1 := ⟨va_Zq.kept h.1 hq, vx_L.kept h.2 hq⟩
theorem vx_Zq.narrow {C n d : String} {A B : Nat → Prop} {U : State} {H : Heap} (h : vx_Zq C n d A U H) (hAB : ∀ q, B q → A q) : vx_Zq C n d B U H := ⟨va_Zq.narrow h.1 hAB, vx_L.narrow h.2 hAB⟩
theorem vx_Zqof {args : Array Value} {s : State} {C n d : String} {A : Nat → Prop} (hl : (Cond.laysStatic C n d).before args s = true) (hini : (Cond.initialized C).before args s = true) (h : (Cond.isRef (.static C n d)).before args s = true) (hA : ∀ a : Nat, a < s.heap.size → ¬ A a) : vx_Zq C n d A s s.heap := by
  refine ⟨va_Zqof hl hini h hA, ?_⟩
  obtain ⟨c, k, i, f, a, cell, h1, h2, h3, h4, h5, h6, h7, h8, h9⟩ := Cond.laysStatic_spec hl
  exact ⟨c, k, i, f, a, cell, h1, h2, h3, h4, h5, h6, h7, h8, h9, hA a (Array.getElem?_eq_some_iff.mp h5).1⟩
theorem vx_isRef {C n d : String} {v : Value} {A : Nat → Prop} {s : State} {args : Array Value} (h : va_Z C n d v A s s.heap) (hv : v.isRef = true) : (Cond.isRef (.static C n d)).before args s = true := by
  obtain ⟨cf, kf, fi, f, a, cell, h1, h2, h3, h4, h5, h6, h7, -⟩ := h
  have he : (Term.static C n d).eval args s none [] s = some v := by
    simp [Term.eval, State.fieldNamed?, h1, h2, h4, h5, h6, h7]
  simp only [Cond.before, Cond.holds, Cond.value, he]
  cases v <;> simp_all [Value.isRef]
theorem vx_isRefq {C n d : String} {A : Nat → Prop} {s : State} {args : Array Value} (h : va_Zq C n d A s s.heap) : (Cond.isRef (.static C n d)).before args s = true := by
  rcases h with h | ⟨t, h⟩
  · exact vx_isRef h rfl
  · exact vx_isRef h rfl
/-- the same frame, seen from here: as if the method were called anew in this heap -/
theorem vx_rebase {T : State} (X : Stand p l e R s m args below meth c T locs cells slots) {R' : Room} (hf : R'.frames ≤ R.frames) (hl : R'.locals ≤ R.locals) (hc : cells + R'.cells ≤ R.cells) (hs : slots + R'.slots ≤ R.slots) :
    Stand p l e R' ((T.setVm s.vm).setFrames (.invoking m args :: below)) m args below meth c T [] 0 0 := by
  have htop : (T.setVm s.vm).topJava?.isSome := X.here.top
  have hF : ((T.setVm s.vm).setFrames (.invoking m args :: below)).frames = .invoking m args :: below := State.frames_setFrames _ (State.cur_lt_of_top htop)
  obtain ⟨g₀, hg0⟩ := Option.isSome_iff_exists.mp htop
  obtain ⟨r, hr⟩ := State.topJava?_eq_some.mp hg0
  have hl9 : e.platform.stackLimits (T.setVm s.vm).me = e.platform.stackLimits s.me := X.limits
  have hb9 : (T.setVm s.vm).me.stackBytes = s.me.stackBytes := X.bytes
  refine ⟨X.admits, X.cas, X.clock, hF, ?_, X.hears, X.method, X.code, X.here, X.tail, X.warmed, ?_, ?_, ?_⟩
  · have h := X.room
    have hU : ((T.setVm s.vm).setFrames (.invoking m args :: below)).localsInUse = s.localsInUse := by
      rw [State.localsInUse_invoking hF (meth := meth) (c := c) X.method X.code, State.localsInUse_invoking X.frames X.method X.code]
    simp only [State.hasRoom, Bool.and_eq_true, decide_eq_true_eq] at h ⊢
    obtain ⟨⟨⟨⟨h1, h2, h3, h4, h5, h6⟩, h7⟩, h8⟩, h9⟩ := h
    rw [X.frames, List.length_cons] at h2 h3
    have q1 := X.heapSize
    have q2 := X.used
    simp only [hF, hU, List.length_cons, State.stackLimits_setFrames, State.stackBytes_setFrames, hl9, hb9]
    refine ⟨⟨⟨⟨by omega, by omega, by omega, by omega, by omega, h6⟩, ?_⟩, ?_⟩, X.book⟩
    · show T.heap.size + R'.cells ≤ e.platform.maxCells
      omega
    · show T.slotsUsed + R'.slots ≤ e.platform.maxSlots
      omega
  · rw [State.stackLimits_setFrames]; rfl
  · rw [State.stackBytes_setFrames]; rfl
  · refine ⟨?_, Nat.le_refl _, Nat.le_refl _, ?_, ?_, fun a c9 h9 => ⟨c9, h9, rfl, rfl, fun _ _ => rfl⟩⟩
    · obtain ⟨t, ht, -⟩ := State.frames_cons hr
      show T.setVm s.vm = { ((T.setVm s.vm).setFrames (.invoking m args :: below)).setFrames (T.setVm s.vm).frames with heap := T.heap, slotsUsed := T.slotsUsed }
      rw [State.setFrames_setFrames, State.setFrames_self ht]
      rfl
    · show T.slotsUsed = T.slotsUsed + ((T.heap.toList.drop T.heap.size).map (·.slots.size)).sum
      rw [List.drop_eq_nil_of_le (Nat.le_of_eq Array.length_toList)]
      rfl
    · show ((T.heap.toList.drop T.heap.size).map (·.slots.size)).sum ≤ 0
      rw [List.drop_eq_nil_of_le (Nat.le_of_eq Array.length_toList)]
      exact Nat.le_refl _
/-- 'throw new E()': new; dup; invokespecial; athrow -/
theorem vx_throw0 {cc : ByteArray} {pc : Nat} (hexec : p.tables.exec = Jvm.exec) (hb : c.code = cc) (hl : l.stackTraces = false) {own cls : String} {names : List String} {ik ic mc ms : Nat} {A : Nat → Prop}
    (hown : s.vm.findClass own = some m.cls) (hcls : Bundle.fit cls = true) (hnames : ∀ n ∈ names, Bundle.fit n = true)
    (hk : (Cond.classLink own ik cls).before args s = true) (hini : (Cond.initialized cls).before args s = true) (hat : ∀ w ∈ vx_at0 own ic cls names, w.before args s = true)
    (hgood : ∀ w ∈ Cond.classLink own ik cls :: Cond.initialized cls :: vx_at0 own ic cls names, vx_ot w = true)
    (hU : vx_Zq Bundle.tN "UNASSIGNED_STACK" Bundle.steD A s s.heap) (hN : vx_Zq Bundle.tN "SUPPRESSED_SENTINEL" Bundle.listD A s s.heap) (hS : va_S A s.heap H locs) (hsize : ls.size = c.maxLocals)
    (d0 : decode cc pc = .ok (.new ik, 3)) (d3 : decode cc (pc + 3) = .ok (.dup, 1)) (d4 : decode cc (pc + 4) = .ok (.invokespecial ic, 3)) (d7 : decode cc (pc + 7) = .ok (.athrow, 1))
    (hout : ∀ x ∈ c.exceptionTable.toList, covers x (pc + 7) = false)
    (hRframes : names.length + 3 < R.frames) (hRlocals : (rest.map fun v => v.category).sum + (13 * (names.length + 1) + 42) ≤ R.locals) (hRcells : cells + 1 ≤ R.cells) (hRslots : slots + 6 ≤ R.slots) (hlocks : meth.locks = false)
    (hx : ∀ t : State, s.vm.Alike t.vm → H.size ≤ t.heap.size → (∀ q : Nat, q < H.size → t.heap[q]? = H[q]?) → XC cls s t)
    (hf : ∀ z ∈ locs, free z.base) (hc : cells + 1 ≤ mc) (hs : slots + 6 ≤ ms) :
    W p l e R s m args below meth c H locs cells slots (vx_MQ below Qc XC args s mc ms free) (F0 m pc ls rest) := by
  intro T hT X
  have htr : e.platform.stackTraces = false := (show e.platform.stackTraces = l.stackTraces by rw [X.admits.platform]).trans hl
  have Y := vx_rebase X (R' := { frames := R.frames, locals := R.locals, cells := 1, slots := 6 }) (Nat.le_refl _) (Nat.le_refl _) hRcells hRslots
  obtain ⟨s', hA⟩ : ∃ z, z = (T.setVm s.vm).setFrames (.invoking m args :: below) := ⟨_, rfl⟩
  rw [← hA] at Y
  have hvm : s'.vm = s.vm := by rw [hA]; rfl
  have hhp : s'.heap = H := by rw [hA]; exact hT
  have hW0 : s.WarmedH s'.vm := by rw [hvm]; exact State.WarmedH.refl s
  have hat' : ∀ w ∈ vx_at0 own ic cls names, w.before args s' = true := fun w hw => vx_ot_at hW0 hvm.symm (hgood w (List.mem_cons_of_mem _ (List.mem_cons_of_mem _ hw))) (hat w hw)
  have hk' : (Cond.classLink own ik cls).before args s' = true := vx_ot_at hW0 hvm.symm (hgood _ List.mem_cons_self) hk
  have hini' : (Cond.initialized cls).before args s' = true := vx_ot_at hW0 hvm.symm (hgood _ (List.mem_cons_of_mem _ List.mem_cons_self)) hini
  have hU' : vx_Zq Bundle.tN "UNASSIGNED_STACK" Bundle.steD A s' s'.heap := by rw [hhp]; exact vx_Zq.moved hW0.alike (hU.kept hS.2.1)
  have hN' : vx_Zq Bundle.tN "SUPPRESSED_SENTINEL" Bundle.listD A s' s'.heap := by rw [hhp]; exact vx_Zq.moved hW0.alike (hN.kept hS.2.1)
  have h : ∀ w ∈ Bundle.ownAtoms0 own ic cls names, w.before args s' = true := vx_own hat' (vx_isRefq hU'.1) (vx_isRefq hN'.1) hU'.2.word hN'.2.word
  have hown' : s'.vm.findClass own = some m.cls := by rw [hvm]; exact hown
  have hins : (Cond.instantiable cls 6).before args s' = true := h _ (by simp [Bundle.ownAtoms0])
  obtain ⟨vm₁, cX, kX, hfX, hkX, -, -, X₁, st1⟩ := Y.newCold hexec (own := own) (C := cls) (index := ik) (n := 6) hown' hk' hins hini'
    (g := F0 m pc ls rest) rfl (by rw [hb]; exact d0) (Nat.le_refl _) (Nat.le_refl _)
  generalize hT1 : (T.setVm vm₁).pushCell { cls := cX, slots := kX.instanceTypes.map defaultValue, vm := .none } = T1 at X₁ st1
  have hcat : (Value.ref T.heap.size).category = 1 := rfl
  have hcellA : T1.heap[T.heap.size]? = some (freshCell cX kX) := by rw [← hT1]; exact State.heap_pushCell_size _ _
  have d3' : decode c.code (pc + 3) = .ok (.dup, 1) := by rw [hb]; exact d3
  obtain ⟨U, hsteps, hrun, hend, hW, hsame, ce, hce, hO⟩ := X₁.ctorThrow0 hexec htr (own := own) (cls := cls) (names := names) (ic := ic) hown' hcls hnames h (fun x hx => nomatch hx) hfX hkX hcellA (by rw [hhp, hT]; exact Nat.le_refl _)
    (g := { method := m, pc := pc + 4, locals := ls, stack := .ref T.heap.size :: .ref T.heap.size :: rest, locked := none }) rfl hsize rfl rfl (rest := rest) rfl
    (by rw [hb]; exact d4) (by rw [hb]; exact d7) hout hRframes (by simp only [List.map_cons, List.sum_cons, hcat]; omega) hlocks
  obtain ⟨f1, f2⟩ := vx_frame hsame
  rw [hhp] at f1 f2
  have hWs : s.WarmedH U.vm := State.WarmedH.trans hW0 hW
  have hcl : s.vm.findClass cls = some ce.cls := by
    have h9 := hO.cls
    rw [hvm] at h9
    exact h9
  have hall : s.sameButNew ({ U with vm := s.vm } : State) locs mc ms := by
    subst hA
    obtain ⟨e1, e2⟩ := hsame
    rw [State.setFrames_setFrames] at e1
    have h2 : (T.setVm s.vm).sameButNew ({ U with vm := s.vm } : State) [] (0 + 1) (0 + 6) := ⟨e1, e2⟩
    have h3 := X.same.trans h2
    rw [List.append_nil] at h3
    exact h3.mono hc hs
  refine ⟨U, ?_, .threw T.heap.size, hrun, hend, Or.inr ⟨T.heap.size, rfl, cls, ce, locs, hx U hWs.alike f1 (fun q hq => f2 q hq (fun z hz => nomatch hz)), hce, hO.vm, hcl, hWs, hall, hf⟩⟩
  refine st1 _ ?_
  show Steps p.tables e below (T1.setTop { method := m, pc := pc + 3, locals := ls, stack := .ref T.heap.size :: rest, locked := none }) _
  jvm_step X₁.here [X₁.here.top, hexec, d3', Value.category]
  exact hsteps
/-- 'throw new E("text")': new; dup; ldc; invokespecial; athrow -/
theorem vx_throwS {cc : ByteArray} {pc : Nat} (hexec : p.tables.exec = Jvm.exec) (hb : c.code = cc) (hl : l.stackTraces = false) {own cls text : String} {names : List String} {ik is ic mc ms sa : Nat} {A : Nat → Prop}
    (hown : s.vm.findClass own = some m.cls) (hcls : Bundle.fit cls = true) (hnames : ∀ n ∈ names, Bundle.fit n = true)
    (hk : (Cond.classLink own ik cls).before args s = true) (hini : (Cond.initialized cls).before args s = true) (hstr : vk_R own is text sa s) (hat : ∀ w ∈ vx_atS own ic cls names, w.before args s = true)
    (hgood : ∀ w ∈ Cond.classLink own ik cls :: Cond.initialized cls :: vx_atS own ic cls names, vx_ot w = true)
    (hU : vx_Zq Bundle.tN "UNASSIGNED_STACK" Bundle.steD A s s.heap) (hN : vx_Zq Bundle.tN "SUPPRESSED_SENTINEL" Bundle.listD A s s.heap) (hS : va_S A s.heap H locs) (hsize : ls.size = c.maxLocals)
    (d0 : decode cc pc = .ok (.new ik, 3)) (d3 : decode cc (pc + 3) = .ok (.dup, 1)) (d4 : decode cc (pc + 4) = .ok (.ldc is, 2)) (d6 : decode cc (pc + 6) = .ok (.invokespecial ic, 3)) (d9 : decode cc (pc + 9) = .ok (.athrow, 1))
    (hout : ∀ x ∈ c.exceptionTable.toList, covers x (pc + 9) = false)
    (hRframes : names.length + 3 < R.frames) (hRlocals : (rest.map fun v => v.category).sum + (13 * (names.length + 1) + 43) ≤ R.locals) (hRcells : cells + 1 ≤ R.cells) (hRslots : slots + 6 ≤ R.slots) (hlocks : meth.locks = false)
    (hx : ∀ t : State, s.vm.Alike t.vm → H.size ≤ t.heap.size → (∀ q : Nat, q < H.size → t.heap[q]? = H[q]?) → XC cls s t)
    (hf : ∀ z ∈ locs, free z.base) (hc : cells + 1 ≤ mc) (hs : slots + 6 ≤ ms) :
    W p l e R s m args below meth c H locs cells slots (vx_MQ below Qc XC args s mc ms free) (F0 m pc ls rest) := by
  intro T hT X
  have htr : e.platform.stackTraces = false := (show e.platform.stackTraces = l.stackTraces by rw [X.admits.platform]).trans hl
  have Y := vx_rebase X (R' := { frames := R.frames, locals := R.locals, cells := 1, slots := 6 }) (Nat.le_refl _) (Nat.le_refl _) hRcells hRslots
  obtain ⟨s', hA⟩ : ∃ z, z = (T.setVm s.vm).setFrames (.invoking m args :: below) := ⟨_, rfl⟩
  rw [← hA] at Y
  have hvm : s'.vm = s.vm := by rw [hA]; rfl
  have hhp : s'.heap = H := by rw [hA]; exact hT
  have hW0 : s.WarmedH s'.vm := by rw [hvm]; exact State.WarmedH.refl s
  have hat' : ∀ w ∈ vx_atS own ic cls names, w.before args s' = true := fun w hw => vx_ot_at hW0 hvm.symm (hgood w (List.mem_cons_of_mem _ (List.mem_cons_of_mem _ hw))) (hat w hw)
  have hk' : (Cond.classLink own ik cls).before args s' = true := vx_ot_at hW0 hvm.symm (hgood _ List.mem_cons_self) hk
  have hini' : (Cond.initialized cls).before args s' = true := vx_ot_at hW0 hvm.symm (hgood _ (List.mem_cons_of_mem _ List.mem_cons_self)) hini
  have hU' : vx_Zq Bundle.tN "UNASSIGNED_STACK" Bundle.steD A s' s'.heap := by rw [hhp]; exact vx_Zq.moved hW0.alike (hU.kept hS.2.1)
  have hN' : vx_Zq Bundle.tN "SUPPRESSED_SENTINEL" Bundle.listD A s' s'.heap := by rw [hhp]; exact vx_Zq.moved hW0.alike (hN.kept hS.2.1)
  have h : ∀ w ∈ Bundle.ownAtoms own ic cls names, w.before args s' = true := vx_own hat' (vx_isRefq hU'.1) (vx_isRefq hN'.1) hU'.2.word hN'.2.word
  have hown' : s'.vm.findClass own = some m.cls := by rw [hvm]; exact hown
  have hins : (Cond.instantiable cls 6).before args s' = true := h _ (by simp [Bundle.ownAtoms])
  obtain ⟨vm₁, cX, kX, hfX, hkX, -, -, X₁, st1⟩ := Y.newCold hexec (own := own) (C := cls) (index := ik) (n := 6) hown' hk' hins hini'
    (g := F0 m pc ls rest) rfl (by rw [hb]; exact d0) (Nat.le_refl _) (Nat.le_refl _)
  generalize hT1 : (T.setVm vm₁).pushCell { cls := cX, slots := kX.instanceTypes.map defaultValue, vm := .none } = T1 at X₁ st1
  have hcat : (Value.ref T.heap.size).category = 1 := rfl
  have hcellA : T1.heap[T.heap.size]? = some (freshCell cX kX) := by rw [← hT1]; exact State.heap_pushCell_size _ _
  have d3' : decode c.code (pc + 3) = .ok (.dup, 1) := by rw [hb]; exact d3
  have d4' : decode c.code (pc + 4) = .ok (.ldc is, 2) := by rw [hb]; exact d4
  have hstr' : vk_R own is text sa s' := vk_R.warm hW0 hstr
  obtain ⟨U, hsteps, hrun, hend, hW, hsame, ce, hce, hO⟩ := X₁.ctorThrowS hexec htr (own := own) (cls := cls) (names := names) (ic := ic) hown' hcls hnames h (fun x hx => nomatch hx) hfX hkX hcellA (by rw [hhp, hT]; exact Nat.le_refl _) (msg := .ref sa) rfl
    (g := { method := m, pc := pc + 6, locals := ls, stack := .ref sa :: .ref T.heap.size :: .ref T.heap.size :: rest, locked := none }) rfl hsize rfl rfl (rest := rest) rfl
    (by rw [hb]; exact d6) (by rw [hb]; exact d9) hout hRframes (by simp only [List.map_cons, List.sum_cons, hcat]; omega) hlocks
  obtain ⟨f1, f2⟩ := vx_frame hsame
  rw [hhp] at f1 f2
  have hWs : s.WarmedH U.vm := State.WarmedH.trans hW0 hW
  have hcl : s.vm.findClass cls = some ce.cls := by
    have h9 := hO.cls
    rw [hvm] at h9
    exact h9
  have hall : s.sameButNew ({ U with vm := s.vm } : State) locs mc ms := by
    subst hA
    obtain ⟨e1, e2⟩ := hsame
    rw [State.setFrames_setFrames] at e1
    have h2 : (T.setVm s.vm).sameButNew ({ U with vm := s.vm } : State) [] (0 + 1) (0 + 6) := ⟨e1, e2⟩
    have h3 := X.same.trans h2
    rw [List.append_nil] at h3
    exact h3.mono hc hs
  refine ⟨U, ?_, .threw T.heap.size, hrun, hend, Or.inr ⟨T.heap.size, rfl, cls, ce, locs, hx U hWs.alike f1 (fun q hq => f2 q hq (fun z hz => nomatch hz)), hce, hO.vm, hcl, hWs, hall, hf⟩⟩
  refine st1 _ ?_
  show Steps p.tables e below (T1.setTop { method := m, pc := pc + 3, locals := ls, stack := .ref T.heap.size :: rest, locked := none }) _
  jvm_step X₁.here [X₁.here.top, hexec, d3', Value.category]
  exact X₁.ldcString hexec (own := own) (text := text) (index := is) (a := sa) hown' hstr'.1 hstr'.2
    (g := { method := m, pc := pc + 4, locals := ls, stack := .ref T.heap.size :: .ref T.heap.size :: rest, locked := none }) rfl d4' _ hsteps
/-- 'throw new E("text")', the text by a wide index -/
theorem vx_throwSW {cc : ByteArray} {pc : Nat} (hexec : p.tables.exec = Jvm.exec) (hb : c.code = cc) (hl : l.stackTraces = false) {own cls text : String} {names : List String} {ik is ic mc ms sa : Nat} {A : Nat → Prop}
    (hown : s.vm.findClass own = some m.cls) (hcls : Bundle.fit cls = true) (hnames : ∀ n ∈ names, Bundle.fit n = true)
    (hk : (Cond.classLink own ik cls).before args s = true) (hini : (Cond.initialized cls).before args s = true) (hstr : vk_R own is text sa s) (hat : ∀ w ∈ vx_atS own ic cls names, w.before args s = true)
    (hgood : ∀ w ∈ Cond.classLink own ik cls :: Cond.initialized cls :: vx_atS own ic cls names, vx_ot w = true)
    (hU : vx_Zq Bundle.tN "UNASSIGNED_STACK" Bundle.steD A s s.heap) (hN : vx_Zq Bundle.tN "SUPPRESSED_SENTINEL" Bundle.listD A s s.heap) (hS : va_S A s.heap H locs) (hsize : ls.size = c.maxLocals)
    (d0 : decode cc pc = .ok (.new ik, 3)) (d3 : decode cc (pc + 3) = .ok (.dup, 1)) (d4 : decode cc (pc + 4) = .ok (.ldc_w is, 3)) (d7 : decode cc (pc + 7) = .ok (.invokespecial ic, 3)) (d10 : decode cc (pc + 10) = .ok (.athrow, 1))
    (hout : ∀ x ∈ c.exceptionTable.toList, covers x (pc + 10) = false)
    (hRframes : names.length + 3 < R.frames) (hRlocals : (rest.map fun v => v.category).sum + (13 * (names.length + 1) + 43) ≤ R.locals) (hRcells : cells + 1 ≤ R.cells) (hRslots : slots + 6 ≤ R.slots) (hlocks : meth.locks = false)
    (hx : ∀ t : State, s.vm.Alike t.vm → H.size ≤ t.heap.size → (∀ q : Nat, q < H.size → t.heap[q]? = H[q]?) → XC cls s t)
    (hf : ∀ z ∈ locs, free z.base) (hc : cells + 1 ≤ mc) (hs : slots + 6 ≤ ms) :
    W p l e R s m args below meth c H locs cells slots (vx_MQ below Qc XC args s mc ms free) (F0 m pc ls rest) := by
  intro T hT X
  have htr : e.platform.stackTraces = false := (show e.platform.stackTraces = l.stackTraces by rw [X.admits.platform]).trans hl
  have Y := vx_rebase X (R' := { frames := R.frames, locals := R.locals, cells := 1, slots := 6 }) (Nat.le_refl _) (Nat.le_refl _) hRcells hRslots
  obtain ⟨s', hA⟩ : ∃ z, z = (T.setVm s.vm).setFrames (.invoking m args :: below) := ⟨_, rfl⟩
  rw [← hA] at Y
  have hvm : s'.vm = s.vm := by rw [hA]; rfl
  have hhp : s'.heap = H := by rw [hA]; exact hT
  have hW0 : s.WarmedH s'.vm := by rw [hvm]; exact State.WarmedH.refl s
  have hat' : ∀ w ∈ vx_atS own ic cls names, w.before args s' = true := fun w hw => vx_ot_at hW0 hvm.symm (hgood w (List.mem_cons_of_mem _ (List.mem_cons_of_mem _ hw))) (hat w hw)
  have hk' : (Cond.classLink own ik cls).before args s' = true := vx_ot_at hW0 hvm.symm (hgood _ List.mem_cons_self) hk
  have hini' : (Cond.initialized cls).before args s' = true := vx_ot_at hW0 hvm.symm (hgood _ (List.mem_cons_of_mem _ List.mem_cons_self)) hini
  have hU' : vx_Zq Bundle.tN "UNASSIGNED_STACK" Bundle.steD A s' s'.heap := by rw [hhp]; exact vx_Zq.moved hW0.alike (hU.kept hS.2.1)
  have hN' : vx_Zq Bundle.tN "SUPPRESSED_SENTINEL" Bundle.listD A s' s'.heap := by rw [hhp]; exact vx_Zq.moved hW0.alike (hN.kept hS.2.1)
  have h : ∀ w ∈ Bundle.ownAtoms own ic cls names, w.before args s' = true := vx_own hat' (vx_isRefq hU'.1) (vx_isRefq hN'.1) hU'.2.word hN'.2.word
  have hown' : s'.vm.findClass own = some m.cls := by rw [hvm]; exact hown
  have hins : (Cond.instantiable cls 6).before args s' = true := h _ (by simp [Bundle.ownAtoms])
  obtain ⟨vm₁, cX, kX, hfX, hkX, -, -, X₁, st1⟩ := Y.newCold hexec (own := own) (C := cls) (index := ik) (n := 6) hown' hk' hins hini'
    (g := F0 m pc ls rest) rfl (by rw [hb]; exact d0) (Nat.le_refl _) (Nat.le_refl _)
  generalize hT1 : (T.setVm vm₁).pushCell { cls := cX, slots := kX.instanceTypes.map defaultValue, vm := .none } = T1 at X₁ st1
  have hcat : (Value.ref T.heap.size).category = 1 := rfl
  have hcellA : T1.heap[T.heap.size]? = some (freshCell cX kX) := by rw [← hT1]; exact State.heap_pushCell_size _ _
  have d3' : decode c.code (pc + 3) = .ok (.dup, 1) := by rw [hb]; exact d3
  have d4' : decode c.code (pc + 4) = .ok (.ldc_w is, 3) := by rw [hb]; exact d4
  have hstr' : vk_R own is text sa s' := vk_R.warm hW0 hstr
  obtain ⟨U, hsteps, hrun, hend, hW, hsame, ce, hce, hO⟩ := X₁.ctorThrowS hexec htr (own := own) (cls := cls) (names := names) (ic := ic) hown' hcls hnames h (fun x hx => nomatch hx) hfX hkX hcellA (by rw [hhp, hT]; exact Nat.le_refl _) (msg := .ref sa) rfl
    (g := { method := m, pc := pc + 7, locals := ls, stack := .ref sa :: .ref T.heap.size :: .ref T.heap.size :: rest, locked := none }) rfl hsize rfl rfl (rest := rest) rfl
    (by rw [hb]; exact d7) (by rw [hb]; exact d10) hout hRframes (by simp only [List.map_cons, List.sum_cons, hcat]; omega) hlocks
  obtain ⟨f1, f2⟩ := vx_frame hsame
  rw [hhp] at f1 f2
  have hWs : s.WarmedH U.vm := State.WarmedH.trans hW0 hW
  have hcl : s.vm.findClass cls = some ce.cls := by
    have h9 := hO.cls
    rw [hvm] at h9
    exact h9
  have hall : s.sameButNew ({ U with vm := s.vm } : State) locs mc ms := by
    subst hA
    obtain ⟨e1, e2⟩ := hsame
    rw [State.setFrames_setFrames] at e1
    have h2 : (T.setVm s.vm).sameButNew ({ U with vm := s.vm } : State) [] (0 + 1) (0 + 6) := ⟨e1, e2⟩
    have h3 := X.same.trans h2
    rw [List.append_nil] at h3
    exact h3.mono hc hs
  refine ⟨U, ?_, .threw T.heap.size, hrun, hend, Or.inr ⟨T.heap.size, rfl, cls, ce, locs, hx U hWs.alike f1 (fun q hq => f2 q hq (fun z hz => nomatch hz)), hce, hO.vm, hcl, hWs, hall, hf⟩⟩
  refine st1 _ ?_
  show Steps p.tables e below (T1.setTop { method := m, pc := pc + 3, locals := ls, stack := .ref T.heap.size :: rest, locked := none }) _
  jvm_step X₁.here [X₁.here.top, hexec, d3', Value.category]
  exact X₁.ldcStringW hexec (own := own) (text := text) (index := is) (a := sa) hown' hstr'.1 hstr'.2
    (g := { method := m, pc := pc + 4, locals := ls, stack := .ref T.heap.size :: .ref T.heap.size :: rest, locked := none }) rfl d4' _ hsteps
end Ends
section Bodies
variable {l : Launch}
theorem vx_ofW {y : MethodName} {ws ws' : List Cond} {rm : Room} {Pc : Array Value → State → Prop} {Qc : Array Value → State → Outcome → State → Prop} {XC : String → State → State → Prop} {mc ms : Nat} {free : Addr → Prop} {cc : ByteArray} {maxL : Nat} {ret : Option FieldType}
    (hy : plainName y.cls = true) (hw : ws = Cond.code y cc maxL ret :: ws')
    (body : ∀ p e s m args below meth c s₁, BodyLoose p l y (headSpec ws rm) cc maxL ret e s m args below meth c s₁ → c.maxLocals = maxL → (∀ x ∈ c.exceptionTable.toList, False) → Pc args s →
      W p l e (headSpec ws rm).room s m args below meth c s.heap [] 0 0 (vx_MQ below Qc XC args s mc ms free) (entryFrame m args maxL)) : vx_Met l y ws rm Pc Qc XC mc ms free := by
  refine MetFree.of_bodyS (code := cc) (maxLocals := maxL) (ret := ret) hy ?_ ?_
  · intro args s m h hn
    obtain ⟨meth, c, h1, h2, h3, h4, h5, h6, -, -⟩ := Cond.code_spec hn (atoms_spec (ws := ws) h _ (by rw [hw]; exact List.mem_cons_self))
    exact ⟨meth, c, h1, h2, h3, h4, h5, h6⟩
  · intro p e s m args below meth c s₁ B hml hP _
    have hh0 : s₁.heap = s.heap := by rw [B.state]; rfl
    have ht : ∀ x ∈ c.exceptionTable.toList, False := by
      obtain ⟨meth9, c9, h1, h2, -, -, -, -, h7, -⟩ := Cond.code_spec B.named (atoms_spec (ws := ws) B.pre _ (by rw [hw]; exact List.mem_cons_self))
      cases Option.some.inj (h1.symm.trans B.method)
      cases Option.some.inj (h2.symm.trans (Stand.of_body B).code)
      intro x hx
      rw [Array.isEmpty_iff.mp h7] at hx
      cases hx
    obtain ⟨t, a1, o, b1, b2, b3⟩ := body p e s m args below meth c s₁ B hml ht hP s₁ hh0 (Stand.of_body B)
    exact ⟨t, o, a1, b1, b2, b3⟩
/-- the table of a body with handlers -/
theorem vx_table {p : Program} {x y : MethodName} {S : Spec} {cc bytes : ByteArray} {maxL maxL' : Nat} {ret ret' : Option FieldType} {e : Env} {s s₁ : State} {m : MethodId} {args : Array Value} {below : List Frame} {meth : Method} {c : Code} {hh : List (Nat × Nat × Nat × Nat)}
    (B : BodyLoose p l y S cc maxL ret e s m args below meth c s₁) (h : (Cond.codeWith y bytes maxL' ret' hh).before args s = true) : c.exceptionTable.toList = tableOf hh := by
  obtain ⟨m9, meth9, c9, hn9, h1, h2, -, -, h6, -⟩ := Cond.codeWith_spec h
  cases Option.some.inj (hn9.symm.trans B.named)
  cases Option.some.inj (h1.symm.trans B.method)
  cases Option.some.inj (h2.symm.trans (Stand.of_body B).code)
  rw [← h6, table_eq]
end Bodies
end VXA
/-! ===== END ===== -/
/-! ===== BEGIN a static call of a method with an exception table ===== -/
section VXS
variable {p : Program} {l : Launch} {e : Env} {R : Room} {s : State} {m : MethodId} {args : Array Value} {below : List Frame} {meth : Method} {c : Code} {T : State} {H : Heap} {locs : List Loc} {cells slots : Nat}
abbrev vx_CSW (R : Room) (s : State) (args : Array Value) (own : String) (index : Nat) (y : MethodName) (bytes : ByteArray) (maxL : Nat) (ret : Option FieldType) (hh : List (Nat × Nat × Nat × Nat)) (ws : List Cond) (rm : Room) (mc ms n : Nat) : Prop :=
  (rm.cells = mc ∧ rm.slots = ms ∧ rm.frames + 1 ≤ R.frames ∧ 8 + (maxL + 11) + rm.locals ≤ R.locals ∧ (∀ w ∈ ws, ∀ (a' : Array Value) (U : State), s.WarmedH U.vm → w.before a' U = true) ∧ Cond.codeWith y bytes maxL ret hh ∈ ws) ∧
  (Cond.codeWith y bytes maxL ret hh).before args s = true ∧ (Cond.initialized y.cls).before args s = true ∧ (y.cls ≠ "java/lang/invoke/MethodHandle" ∧ y.cls ≠ "java/lang/invoke/VarHandle") ∧
  (∀ sig, parseMethodDescriptor y.desc = some sig → n = sig.parameters.length) ∧ (Cond.methodLink own index y).before args s = true ∧ (Cond.static y).before args s = true
theorem vx_cwSW {own : String} {index maxL mc ms : Nat} {y : MethodName} {bytes : ByteArray} {ret : Option FieldType} {hh : List (Nat × Nat × Nat × Nat)} {Ts ws ws' : List Cond} {rm : Room} (n : Nat) (ht : ∀ w ∈ Ts, w.before args s = true) (hT : GoodIn Ts (va_wsS own index y ws)) (hw : ws = Cond.codeWith y bytes maxL ret hh :: ws') (hrc : rm.cells = mc) (hrs : rm.slots = ms)
    (hd : y.cls ≠ "java/lang/invoke/MethodHandle" ∧ y.cls ≠ "java/lang/invoke/VarHandle" ∧ (parseMethodDescriptor y.desc).map (fun d => d.parameters.length) = some n) (hR : rm.frames + 1 ≤ R.frames ∧ 8 + (maxL + 11) + rm.locals ≤ R.locals) :
    vx_CSW R s args own index y bytes maxL ret hh ws rm mc ms n := by
  have ok : ∀ w ∈ va_wsS own index y ws, w.before args s = true := fun w h => ht w (hT w h).1
  have hG : GoodIn Ts ws := fun w h => hT w (by unfold va_wsS; exact List.mem_append_right _ h)
  have hc : Cond.codeWith y bytes maxL ret hh ∈ ws := by rw [hw]; exact List.mem_cons_self
  refine ⟨⟨hrc, hrs, hR.1, hR.2, pay_in ht hG, hc⟩, ht _ (hG _ hc).1, ok _ (by simp [va_wsS]), ⟨hd.1, hd.2.1⟩, fun sig h => ?_, ok _ (by simp [va_wsS]), ok _ (by simp [va_wsS])⟩
  have h2 := hd.2.2
  rw [h] at h2
  exact (Option.some.inj h2).symm
theorem vx_callSW (X : Stand p l e R s m args below meth c T locs cells slots) (hexec : p.tables.exec = Jvm.exec) {own : String} {index : Nat} {y : MethodName} {bytes : ByteArray} {maxL : Nat} {ret : Option FieldType} {hh : List (Nat × Nat × Nat × Nat)}
    (hown : s.vm.findClass own = some m.cls) (hlink : (Cond.methodLink own index y).before args s = true) (hstat : (Cond.static y).before args s = true) (hinit : (Cond.initialized y.cls).before args s = true)
    (hcode : (Cond.codeWith y bytes maxL ret hh).before args s = true) (hy : y.cls ≠ "java/lang/invoke/MethodHandle" ∧ y.cls ≠ "java/lang/invoke/VarHandle")
    {W9 : Nat} {Pre : Pt → Array Value → Prop} {Post : Pt → Array Value → Option Value → Pt → Prop} (hK : Back l R p e below s args y 3 W9 Pre Post)
    {g : JFrame} (hg : g.method = m) (hsize : g.locals.size = c.maxLocals) {argsL rest : List Value} (hlen : ∀ sig, parseMethodDescriptor y.desc = some sig → argsL.length = sig.parameters.length)
    (hstack : g.stack = argsL.reverse ++ rest) (hW : 2 * g.monitorRoom + (rest.map fun v => v.category).sum ≤ W9) (hdg : decode c.code g.pc = .ok (.invokestatic index, 3))
    (hpre : ∀ vm₁, s.WarmedH vm₁ → Pre ⟨T.setVm vm₁, locs, cells, slots⟩ argsL.toArray) :
    ∃ (v : Option Value) (vm₁ : Vm) (B : Pt), s.WarmedH vm₁ ∧ Stand p l e R s m args below meth c B.U B.locs B.cells B.slots ∧ Post ⟨T.setVm vm₁, locs, cells, slots⟩ argsL.toArray v B ∧
      ∀ target, Steps p.tables e below (B.U.setTop { g with pc := g.pc + 3, stack := v.toList ++ rest }) target → Steps p.tables e below (T.setTop g) target := by
  obtain ⟨mk, methM, cM, hnamed, hmethM, -, -, -, -, -, -, hsigM⟩ := Cond.codeWith_spec hcode
  have hstatic : methM.isStatic = true := Cond.static_spec hnamed hmethM hstat
  obtain ⟨kP, hkP, -⟩ := className_of_methodNamed hnamed
  have hinitP : kP.init = .initialized := Cond.initialized_spec (findClass_of_methodNamed hnamed) hkP hinit
  obtain ⟨vm₁, X₁, hstep₁⟩ := X.invokestatic hexec hown hlink hnamed hmethM hstatic hkP hinitP hy (g := g) hg (argsL := argsL) (rest := rest) (hlen _ hsigM) hstack hdg
  obtain ⟨v, B, X', hpost, hsteps⟩ := hK m meth c ⟨T.setVm vm₁, locs, cells, slots⟩ { g with stack := rest } (.invokestatic index) mk argsL.toArray X₁ hg hsize hdg hW (X₁.named hnamed) (hpre vm₁ X₁.warmed)
  exact ⟨v, vm₁, B, X₁.warmed, X', hpost, fun target h => hstep₁ _ fun acts => by rw [doInvoke_state]; exact hsteps.trans h⟩
theorem vx_runSW {y : MethodName} {bytes cc : ByteArray} {maxL nL mc ms n index : Nat} {ret : Option FieldType} {hh : List (Nat × Nat × Nat × Nat)} {ws : List Cond} {rm : Room} {Pc : Array Value → State → Prop} {Qc : Array Value → State → Outcome → State → Prop} {free : Addr → Prop} {Ts : List Cond} {own : String} {As rest : List Value} {g : JFrame}
    (S : CallFix p m c cc nL s args Ts own) (hM : Met l y ws rm Pc Qc mc ms free) (cw : vx_CSW R s args own index y bytes maxL ret hh ws rm mc ms n) (hp : PreS s H Pc As)
    (hg : g.method = m) (hn : As.length = n) (hsize : g.locals.size = nL) (hstack : g.stack = As.reverse ++ rest) (hW : 2 * g.monitorRoom + (rest.map fun v => v.category).sum ≤ 8) (hdg : decode cc g.pc = .ok (.invokestatic index, 3)) (hf : cells + mc ≤ R.cells ∧ slots + ms ≤ R.slots) :
    va_Run p l e R s m args below meth c H locs cells slots mc ms g rest (Qc As.toArray) (free) := by
  obtain ⟨⟨hrc, hrs, hfr, hlo, hws, hcw⟩, hcode, hini, hy, hlen, hl, hstt⟩ := cw
  have hK : Back l R p e below s args y 3 8 (PreOf R mc ms Pc) (PostOf Qc mc ms free) := va_backW (hh := hh) (bytes := bytes) (maxL := maxL) (ret := ret) hM hp.1 hrc hrs hfr hlo hws hcw (fun a' U hW => word_at hW (Or.inl (by first | rfl | simp [Cond.onTables, Cond.keeps, Cond.steady])) hini)
  obtain ⟨hx, hb, hml, ho, -⟩ := S
  intro T hT X
  obtain ⟨v, vm₁, ⟨U', l2, c2, s2⟩, hW₁, X', ⟨g', mk, t, L, e1, e2, hq, h1, hL, h2, h3⟩, st⟩ := vx_callSW X hx (hh := hh) (bytes := bytes) (maxL := maxL) (ret := ret) ho hl hstt hini hcode hy hK hg (hsize.trans hml.symm) (argsL := As) (rest := rest) (fun sig h => hn.trans (hlen sig h)) hstack hW (by rw [hb]; exact hdg)
    (fun vm₁ hW₁ => ⟨hf.1, hf.2, hp.2 (T.setVm vm₁) hT hW₁⟩)
  dsimp only [Pt.U, Pt.locs, Pt.cells, Pt.slots] at X' e1 e2 h1 h2 h3 st
  subst h1; subst h2; subst h3
  exact ⟨v, (T.setVm vm₁).calling g' mk As.toArray, t, U', L, hT, X', hL, e1, e2, hq, st⟩
/-- not caught here, past rows that name other classes: it goes on to the caller -/
theorem vx_outP {p : Program} {l : Launch} {e : Env} {R : Room} {s : State} {m : MethodId} {args : Array Value} {below : List Frame} {meth : Method} {c : Code} {H : Heap} {locs : List Loc} {cells slots : Nat} {free : Addr → Prop} {ls : Array Slot} {rest : List Value} {Qc : Array Value → State → Outcome → State → Prop} {XC : String → State → State → Prop}
    {pc : Nat} {own E : String} {ce : Cell} {q : Addr} {mc ms : Nat} (hown : s.vm.findClass own = some m.cls) (hlocks : meth.locks = false)
    (hpass : ∀ z ∈ c.exceptionTable.toList, covers z pc = false ∨ (z.catchType ≠ 0 ∧ ∃ nm : String, (Cond.classLink own z.catchType nm).before args s = true ∧ va_Nc E nm s)) (hcell : H[q]? = some ce) (hv : ce.vm = .none) (hcl : s.vm.findClass E = some ce.cls)
    (hx : ∀ t : State, t.heap = H → s.vm.Alike t.vm → XC E s t) (hf : ∀ z ∈ locs, free z.base) (hc : cells ≤ mc) (hs : slots ≤ ms) :
    vx_W p l e R s m args below meth c H locs cells slots (vx_MQ below Qc XC args s mc ms free) (F0 m pc ls rest) q := by
  intro T hT X
  have hpl : e.platform.magicAccessors = ({} : Platform).magicAccessors := by rw [X.admits.platform]
  obtain ⟨vm', hW', X', st⟩ := X.outThrough hlocks q (g := F0 m pc ls rest) rfl rfl rfl (cell := ce) (by rw [hT]; exact hcell) (by rw [hv]; rfl)
    (by obtain ⟨k9, h9, -⟩ := Vm.findClass_spec hcl; exact ⟨k9, h9⟩) (fun z hz => by
      rcases hpass z hz with h | ⟨hz0, nm, hl1, hn1⟩
      · exact Or.inl h
      · obtain ⟨c6, hc6, hcl6⟩ := Cond.classLink_spec hown hl1 e.platform hpl
        obtain ⟨a8, b8, h1, h2, h3⟩ := hn1
        cases Option.some.inj (h1.symm.trans hcl)
        cases Option.some.inj (h2.symm.trans hc6)
        exact Or.inr ⟨hz0, _, hcl6, h3⟩)
  obtain ⟨g₀, hfr⟩ := X'.frames_eq
  have hcell9 : ((T.setVm vm').setFrames (.throwing q :: below)).heap[q]? = some ce := by
    show T.heap[q]? = some ce
    rw [hT]; exact hcell
  have hend : Ended ((T.setVm vm').setFrames (.throwing q :: below)) below (.threw q) := State.frames_setFrames _ (State.cur_lt_of_frames hfr)
  refine ⟨(T.setVm vm').setFrames (.throwing q :: below), ?_, .threw q, X'.here.running, hend, Or.inr ⟨q, rfl, E, ce, locs, hx _ hT (X'.ends _).1.alike, hcell9, hv, hcl, (X'.ends _).1, (X'.ends _).2.mono hc hs, hf⟩⟩
  rw [X.pushThrowing_eq]
  exact st
/-- a thing of a world lies in the heap -/
theorem vx_lt {D : va_G} {cl : List vw_C} {ws : va_W} {H1 : Heap} (h : va_P D cl ws H1) {k : Nat} {q : Nat × va_E} (hk : ws[k]? = some q) : q.1 < H1.size := (h k q hk).lt
end VXS
/-! ===== END ===== -/
/-! ===== BEGIN methods with a table of their own: called by a name, returning or throwing ===== -/
section VXH
/-! vx_backW, vx_callVX, vx_callSX, vx_callVW, vx_runVW, vx_runVX, vx_runSX, vx_ofWH follow the same proofs as their sisters above (Free/Laws.lean, Shelf42/LK1.lean); vx_outP calls Shelf42/NT130.lean (outThrough). -/
section
variable {l : Launch} {R : Room} {p : Program} {e : Env} {below : List Frame} {s : State} {sargs : Array Value} {y : MethodName} {len W9 : Nat}
theorem vx_backW {ws : List Cond} {rm : Room} {Pc : Array Value → State → Prop} {Qc : Array Value → State → Outcome → State → Prop} {XC : String → State → State → Prop} {mc ms : Nat} {free : Addr → Prop} {bytes : ByteArray} {maxL : Nat} {ret : Option FieldType} {hh : List (Nat × Nat × Nat × Nat)}
    (hM : vx_Met l y ws rm Pc Qc XC mc ms free) (hblind : FrameBlind Pc) (hrc : rm.cells = mc) (hrs : rm.slots = ms)
    (hframes : rm.frames + 1 ≤ R.frames) (hlocals : W9 + (maxL + 11) + rm.locals ≤ R.locals)
    (hws : ∀ w ∈ ws, ∀ a' U, s.WarmedH U.vm → w.before a' U = true) (hcode : Cond.codeWith y bytes maxL ret hh ∈ ws) (hinit : ∀ a' U, s.WarmedH U.vm → (Cond.initialized y.cls).before a' U = true) :
    vx_Back l R p e below s sargs y len W9 (PreOf R mc ms Pc) (PostOf Qc mc ms free) (vx_Post XC mc ms free) := by
  intro m meth c A g ig mk a X hg hsize hdg hW hn hp
  have h1 : (headSpec ws rm).pre.before a A.U = true := atoms_intro fun w hw => hws w hw _ _ X.warmed
  have h2 : (Cond.codeWith y bytes maxL ret hh).before a A.U = true := hws _ hcode _ _ X.warmed
  have h3 : (Cond.initialized y.cls).before a A.U = true := hinit _ _ X.warmed
  have h4 : A.cells + (headSpec ws rm).room.cells ≤ R.cells := by rw [show (headSpec ws rm).room.cells = mc from hrc]; exact hp.1
  have h5 : A.slots + (headSpec ws rm).room.slots ≤ R.slots := by rw [show (headSpec ws rm).room.slots = ms from hrs]; exact hp.2.1
  have hPc : Pc a (A.U.calling g mk a) := hblind _ _ _ _ hp.2.2
  obtain ⟨U, Ls, c0, s0⟩ := A
  dsimp only [Pt.U, Pt.locs, Pt.cells, Pt.slots] at h1 h2 h3 h4 h5 X hn hPc ⊢
  obtain ⟨m9, methY, cY, hn9, hmY, hcY, -, hlY, -⟩ := Cond.codeWith_spec h2
  cases Option.some.inj (hn9.symm.trans hn)
  obtain ⟨kY, hkY, -⟩ := className_of_methodNamed hn
  have hinitY : kY.init = .initialized := Cond.initialized_spec (findClass_of_methodNamed hn) hkY h3
  have h : At U g.method c below := by rw [hg]; exact X.here
  have hlocals9 : W9 + (maxL + 11) + (headSpec ws rm).room.locals ≤ R.locals := hlocals
  have happ : (headSpec ws rm).appliesLoose y e.platform (U.calling g mk a) = true :=
    Spec.appliesLoose_calling (g := g) h hdg hn hkY hinitY
      (X.room_calling (g := g) (R' := (headSpec ws rm).room) hsize hmY hcY hframes (by rw [hlY]; omega) h4 h5) h1
  obtain ⟨mid, hmid⟩ := h.above
  have hfr : (U.setTop g).frames = (.java g :: mid) ++ below := by rw [State.frames_setTop' g h.top, hmid]; rfl
  obtain ⟨o, s₂, hsteps, -, hend, hq⟩ := Steps.callFree hM p X.admits X.cas X.clock (acts := []) hfr happ hPc trivial
  have hq' : vx_Q Qc XC mc ms free a (U.calling g mk a) o s₂ := hq
  rw [State.frames_setTop' g h.top] at hend
  obtain ⟨g₀, hg0⟩ := Option.isSome_iff_exists.mp h.top
  obtain ⟨r, hr⟩ := State.topJava?_eq_some.mp hg0
  have hr' : (({ U with heap := s₂.heap, slotsUsed := s₂.slotsUsed } : State).setVm s₂.vm).frames = .java g₀ :: r := hr
  rcases hq' with ⟨hqc, L, hfe, hL⟩ | ⟨q, rfl, E, ce, L, hx, hce, hcv, hcl, hW₂, hsm, hL⟩
  · obtain ⟨⟨v, rfl⟩, hW₂, e2, q2, q3, q4, q5, q6⟩ := id hfe
    have e3 : s₂ = ({ (U.calling g mk a).setFrames s₂.frames with heap := s₂.heap, slotsUsed := s₂.slotsUsed } : State).setVm s₂.vm := by
      have : s₂ = ({ s₂ with vm := (U.calling g mk a).vm } : State).setVm s₂.vm := rfl
      rw [e2] at this
      exact this
    obtain ⟨c₂, i₂, len₂, hc₂, hd₂, hf₂⟩ := hend
    have hW' : U.WarmedH s₂.vm := hW₂
    have hcc : c₂ = c := by
      have h1 : s₂.code? g.method = U.code? g.method := by
        rw [State.code?_eq, State.code?_eq, hW'.alike.method?]
      exact Option.some.inj (hc₂.symm.trans (h1.trans h.code))
    subst hcc
    have hlen : len₂ = len := by rw [hdg] at hd₂; cases hd₂; rfl
    subst hlen
    have hs₂ : s₂ = (({ U with heap := s₂.heap, slotsUsed := s₂.slotsUsed } : State).setVm s₂.vm).setTop { g with pc := g.pc + len₂, stack := v.toList ++ g.stack } := by
      refine e3.trans ?_
      rw [hf₂, State.calling_eq h.top, State.setFrames_setFrames, State.setTop_of_frames _ hr', hr]
      rfl
    have hsame : U.sameButNew ({ U with heap := s₂.heap, slotsUsed := s₂.slotsUsed } : State) L mc ms := by
      refine ⟨?_, q2, q3, q4, q5, q6⟩
      obtain ⟨t, ht, -⟩ := State.frames_cons hr
      show ({ U with heap := s₂.heap, slotsUsed := s₂.slotsUsed } : State) = { U.setFrames U.frames with heap := s₂.heap, slotsUsed := s₂.slotsUsed }
      rw [State.setFrames_self ht]
    subst hg
    refine Or.inl ⟨v, ⟨(({ U with heap := s₂.heap, slotsUsed := s₂.slotsUsed } : State).setVm s₂.vm), Ls ++ L, c0 + mc, s0 + ms⟩,
      ⟨X.admits, X.cas, X.clock, X.frames, X.room, X.hears, X.method, X.code, (X.here.setHeapUsed s₂.heap s₂.slotsUsed).setVm hW'.alike, X.tail, State.WarmedH.trans X.warmed hW', X.limits, X.bytes, X.same.trans (hsame.setVm s.vm)⟩,
      ⟨g, mk, s₂, L, rfl, rfl, hqc, rfl, hL, rfl, rfl⟩, ?_⟩
    show Steps p.tables e below _ ((({ U with heap := s₂.heap, slotsUsed := s₂.slotsUsed } : State).setVm s₂.vm).setTop { g with pc := g.pc + len₂, stack := v.toList ++ g.stack })
    rw [← hs₂]
    exact hsteps
  · obtain ⟨e2, q2, q3, q4, q5, q6⟩ := id hsm
    have e3 : s₂ = ({ (U.calling g mk a).setFrames s₂.frames with heap := s₂.heap, slotsUsed := s₂.slotsUsed } : State).setVm s₂.vm := by
      have : s₂ = ({ s₂ with vm := (U.calling g mk a).vm } : State).setVm s₂.vm := rfl
      rw [e2] at this
      exact this
    have hf₂ : s₂.frames = .throwing q :: .java g :: U.frames.tail := hend
    have hW' : U.WarmedH s₂.vm := hW₂
    have hs₂ : s₂ = ((({ U with heap := s₂.heap, slotsUsed := s₂.slotsUsed } : State).setVm s₂.vm).setTop g).pushFrame (.throwing q) := by
      refine e3.trans ?_
      rw [hf₂, State.calling_eq h.top, State.setFrames_setFrames, State.pushFrame, State.frames_setTop _ hr', State.setTop_of_frames _ hr', State.setFrames_setFrames, hr]
      rfl
    have hsame : U.sameButNew ({ U with heap := s₂.heap, slotsUsed := s₂.slotsUsed } : State) L mc ms := by
      refine ⟨?_, q2, q3, q4, q5, q6⟩
      obtain ⟨t, ht, -⟩ := State.frames_cons hr
      show ({ U with heap := s₂.heap, slotsUsed := s₂.slotsUsed } : State) = { U.setFrames U.frames with heap := s₂.heap, slotsUsed := s₂.slotsUsed }
      rw [State.setFrames_self ht]
    subst hg
    refine Or.inr ⟨q, ⟨(({ U with heap := s₂.heap, slotsUsed := s₂.slotsUsed } : State).setVm s₂.vm), Ls ++ L, c0 + mc, s0 + ms⟩,
      ⟨X.admits, X.cas, X.clock, X.frames, X.room, X.hears, X.method, X.code, (X.here.setHeapUsed s₂.heap s₂.slotsUsed).setVm hW'.alike, X.tail, State.WarmedH.trans X.warmed hW', X.limits, X.bytes, X.same.trans (hsame.setVm s.vm)⟩,
      ⟨g, mk, s₂, L, E, ce, rfl, rfl, hx, hce, hcv, hcl, rfl, hL, rfl, rfl⟩, ?_⟩
    show Steps p.tables e below _ (((({ U with heap := s₂.heap, slotsUsed := s₂.slotsUsed } : State).setVm s₂.vm).setTop g).pushFrame (.throwing q))
    rw [← hs₂]
    exact hsteps
end
variable {p : Program} {l : Launch} {e : Env} {R : Room} {s : State} {m : MethodId} {args : Array Value} {below : List Frame} {meth : Method} {c : Code} {T : State} {H : Heap} {locs : List Loc} {cells slots : Nat}
theorem vx_callVX (X : Stand p l e R s m args below meth c T locs cells slots) (hexec : p.tables.exec = Jvm.exec) {own C : String} {index : Nat} {y : MethodName} {bytes : ByteArray} {maxL : Nat} {ret : Option FieldType} {hh : List (Nat × Nat × Nat × Nat)}
    (hown : s.vm.findClass own = some m.cls) (hlink : (Cond.methodLink own index y).before args s = true) (hinst : (Cond.instanceMethod y).before args s = true) (hsel : (Cond.selects C y y).before args s = true)
    (hcode : (Cond.codeWith y bytes maxL ret hh).before args s = true) (hy : y.cls ≠ "java/lang/invoke/MethodHandle" ∧ y.cls ≠ "java/lang/invoke/VarHandle")
    {W9 : Nat} {Pre : Pt → Array Value → Prop} {Post : Pt → Array Value → Option Value → Pt → Prop} {PostX : Pt → Array Value → Addr → Pt → Prop} (hK : vx_Back l R p e below s args y 3 W9 Pre Post PostX)
    {b : Addr} {cellB : Cell} (hcell : T.heap[b]? = some cellB) (hobj : cellB.vm.isStatics = false) (hcls : s.vm.findClass C = some cellB.cls)
    {g : JFrame} (hg : g.method = m) (hsize : g.locals.size = c.maxLocals) {argsL rest : List Value} (hlen : ∀ sig, parseMethodDescriptor y.desc = some sig → argsL.length = sig.parameters.length)
    (hstack : g.stack = argsL.reverse ++ .ref b :: rest) (hW : 2 * g.monitorRoom + (rest.map fun v => v.category).sum ≤ W9) (hdg : decode c.code g.pc = .ok (.invokevirtual index, 3))
    (hpre : ∀ vm₁, s.WarmedH vm₁ → Pre ⟨T.setVm vm₁, locs, cells, slots⟩ (Value.ref b :: argsL).toArray) :
    (∃ (v : Option Value) (vm₁ : Vm) (B : Pt), s.WarmedH vm₁ ∧ Stand p l e R s m args below meth c B.U B.locs B.cells B.slots ∧ Post ⟨T.setVm vm₁, locs, cells, slots⟩ (Value.ref b :: argsL).toArray v B ∧
      ∀ target, Steps p.tables e below (B.U.setTop { g with pc := g.pc + 3, stack := v.toList ++ rest }) target → Steps p.tables e below (T.setTop g) target) ∨
    (∃ (q : Addr) (vm₁ : Vm) (B : Pt), s.WarmedH vm₁ ∧ Stand p l e R s m args below meth c B.U B.locs B.cells B.slots ∧ PostX ⟨T.setVm vm₁, locs, cells, slots⟩ (Value.ref b :: argsL).toArray q B ∧
      Steps p.tables e below (T.setTop g) ((B.U.setTop { g with stack := rest }).pushFrame (.throwing q))) := by
  obtain ⟨mk, methM, hnamed, hmethM, hstM, habM⟩ := Cond.instanceMethod_spec hinst
  obtain ⟨m8, methM', cM, hn8, hmethM', -, -, -, -, -, -, hsigM⟩ := Cond.codeWith_spec hcode
  cases Option.some.inj (hn8.symm.trans hnamed)
  cases hmethM.symm.trans hmethM'
  obtain ⟨c2, r2, m2, q1, q2, q3, q4, kP, hkP, hkPi⟩ := Cond.selects_spec hsel
  cases hcls.symm.trans q1
  cases (State.methodFound?_of_named hnamed hy).symm.trans q2
  cases hnamed.symm.trans q3
  have hselP : selectMethod e.platform s.vm cellB.cls mk = .method mk := by rw [Launch.admits_selectMethod X.admits]; exact q4
  obtain ⟨vm₁, X₁, hstep₁⟩ := X.invokevirtual hexec hown hlink hnamed hmethM hstM hkP hkPi hy (a := b) (cell := cellB) hcell
    (fun z h => by rw [h] at hobj; cases hobj) hselP hmethM habM hkP hkPi (g := g) hg (argsL := argsL) (rest := rest) (hlen _ hsigM) hstack hdg
  rcases hK m meth c ⟨T.setVm vm₁, locs, cells, slots⟩ { g with stack := rest } (.invokevirtual index) mk (Value.ref b :: argsL).toArray X₁ hg hsize hdg hW (X₁.named hnamed) (hpre vm₁ X₁.warmed) with ⟨v, B, X', hpost, hsteps⟩ | ⟨q, B, X', hpost, hsteps⟩
  · exact Or.inl ⟨v, vm₁, B, X₁.warmed, X', hpost, fun target h => hstep₁ _ fun acts => by rw [doInvoke_state]; exact hsteps.trans h⟩
  · exact Or.inr ⟨q, vm₁, B, X₁.warmed, X', hpost, hstep₁ _ fun acts => by rw [doInvoke_state]; exact hsteps⟩
theorem vx_callSX (X : Stand p l e R s m args below meth c T locs cells slots) (hexec : p.tables.exec = Jvm.exec) {own : String} {index : Nat} {y : MethodName} {bytes : ByteArray} {maxL : Nat} {ret : Option FieldType} {hh : List (Nat × Nat × Nat × Nat)}
    (hown : s.vm.findClass own = some m.cls) (hlink : (Cond.methodLink own index y).before args s = true) (hstat : (Cond.static y).before args s = true) (hinit : (Cond.initialized y.cls).before args s = true)
    (hcode : (Cond.codeWith y bytes maxL ret hh).before args s = true) (hy : y.cls ≠ "java/lang/invoke/MethodHandle" ∧ y.cls ≠ "java/lang/invoke/VarHandle")
    {W9 : Nat} {Pre : Pt → Array Value → Prop} {Post : Pt → Array Value → Option Value → Pt → Prop} {PostX : Pt → Array Value → Addr → Pt → Prop} (hK : vx_Back l R p e below s args y 3 W9 Pre Post PostX)
    {g : JFrame} (hg : g.method = m) (hsize : g.locals.size = c.maxLocals) {argsL rest : List Value} (hlen : ∀ sig, parseMethodDescriptor y.desc = some sig → argsL.length = sig.parameters.length)
    (hstack : g.stack = argsL.reverse ++ rest) (hW : 2 * g.monitorRoom + (rest.map fun v => v.category).sum ≤ W9) (hdg : decode c.code g.pc = .ok (.invokestatic index, 3))
    (hpre : ∀ vm₁, s.WarmedH vm₁ → Pre ⟨T.setVm vm₁, locs, cells, slots⟩ argsL.toArray) :
    (∃ (v : Option Value) (vm₁ : Vm) (B : Pt), s.WarmedH vm₁ ∧ Stand p l e R s m args below meth c B.U B.locs B.cells B.slots ∧ Post ⟨T.setVm vm₁, locs, cells, slots⟩ argsL.toArray v B ∧
      ∀ target, Steps p.tables e below (B.U.setTop { g with pc := g.pc + 3, stack := v.toList ++ rest }) target → Steps p.tables e below (T.setTop g) target) ∨
    (∃ (q : Addr) (vm₁ : Vm) (B : Pt), s.WarmedH vm₁ ∧ Stand p l e R s m args below meth c B.U B.locs B.cells B.slots ∧ PostX ⟨T.setVm vm₁, locs, cells, slots⟩ argsL.toArray q B ∧
      Steps p.tables e below (T.setTop g) ((B.U.setTop { g with stack := rest }).pushFrame (.throwing q))) := by
  obtain ⟨mk, methM, cM, hnamed, hmethM, -, -, -, -, -, -, hsigM⟩ := Cond.codeWith_spec hcode
  have hstatic : methM.isStatic = true := Cond.static_spec hnamed hmethM hstat
  obtain ⟨kP, hkP, -⟩ := className_of_methodNamed hnamed
  have hinitP : kP.init = .initialized := Cond.initialized_spec (findClass_of_methodNamed hnamed) hkP hinit
  obtain ⟨vm₁, X₁, hstep₁⟩ := X.invokestatic hexec hown hlink hnamed hmethM hstatic hkP hinitP hy (g := g) hg (argsL := argsL) (rest := rest) (hlen _ hsigM) hstack hdg
  rcases hK m meth c ⟨T.setVm vm₁, locs, cells, slots⟩ { g with stack := rest } (.invokestatic index) mk argsL.toArray X₁ hg hsize hdg hW (X₁.named hnamed) (hpre vm₁ X₁.warmed) with ⟨v, B, X', hpost, hsteps⟩ | ⟨q, B, X', hpost, hsteps⟩
  · exact Or.inl ⟨v, vm₁, B, X₁.warmed, X', hpost, fun target h => hstep₁ _ fun acts => by rw [doInvoke_state]; exact hsteps.trans h⟩
  · exact Or.inr ⟨q, vm₁, B, X₁.warmed, X', hpost, hstep₁ _ fun acts => by rw [doInvoke_state]; exact hsteps⟩
theorem vx_callVW (X : Stand p l e R s m args below meth c T locs cells slots) (hexec : p.tables.exec = Jvm.exec) {own C : String} {index : Nat} {y : MethodName} {bytes : ByteArray} {maxL : Nat} {ret : Option FieldType} {hh : List (Nat × Nat × Nat × Nat)}
    (hown : s.vm.findClass own = some m.cls) (hlink : (Cond.methodLink own index y).before args s = true) (hinst : (Cond.instanceMethod y).before args s = true) (hsel : (Cond.selects C y y).before args s = true)
    (hcode : (Cond.codeWith y bytes maxL ret hh).before args s = true) (hy : y.cls ≠ "java/lang/invoke/MethodHandle" ∧ y.cls ≠ "java/lang/invoke/VarHandle")
    {W9 : Nat} {Pre : Pt → Array Value → Prop} {Post : Pt → Array Value → Option Value → Pt → Prop} (hK : Back l R p e below s args y 3 W9 Pre Post)
    {b : Addr} {cellB : Cell} (hcell : T.heap[b]? = some cellB) (hobj : cellB.vm.isStatics = false) (hcls : s.vm.findClass C = some cellB.cls)
    {g : JFrame} (hg : g.method = m) (hsize : g.locals.size = c.maxLocals) {argsL rest : List Value} (hlen : ∀ sig, parseMethodDescriptor y.desc = some sig → argsL.length = sig.parameters.length)
    (hstack : g.stack = argsL.reverse ++ .ref b :: rest) (hW : 2 * g.monitorRoom + (rest.map fun v => v.category).sum ≤ W9) (hdg : decode c.code g.pc = .ok (.invokevirtual index, 3))
    (hpre : ∀ vm₁, s.WarmedH vm₁ → Pre ⟨T.setVm vm₁, locs, cells, slots⟩ (Value.ref b :: argsL).toArray) :
    ∃ (v : Option Value) (vm₁ : Vm) (B : Pt), s.WarmedH vm₁ ∧ Stand p l e R s m args below meth c B.U B.locs B.cells B.slots ∧ Post ⟨T.setVm vm₁, locs, cells, slots⟩ (Value.ref b :: argsL).toArray v B ∧
      ∀ target, Steps p.tables e below (B.U.setTop { g with pc := g.pc + 3, stack := v.toList ++ rest }) target → Steps p.tables e below (T.setTop g) target := by
  obtain ⟨mk, methM, hnamed, hmethM, hstM, habM⟩ := Cond.instanceMethod_spec hinst
  obtain ⟨m8, methM', cM, hn8, hmethM', -, -, -, -, -, -, hsigM⟩ := Cond.codeWith_spec hcode
  cases Option.some.inj (hn8.symm.trans hnamed)
  cases hmethM.symm.trans hmethM'
  obtain ⟨c2, r2, m2, q1, q2, q3, q4, kP, hkP, hkPi⟩ := Cond.selects_spec hsel
  cases hcls.symm.trans q1
  cases (State.methodFound?_of_named hnamed hy).symm.trans q2
  cases hnamed.symm.trans q3
  have hselP : selectMethod e.platform s.vm cellB.cls mk = .method mk := by rw [Launch.admits_selectMethod X.admits]; exact q4
  obtain ⟨vm₁, X₁, hstep₁⟩ := X.invokevirtual hexec hown hlink hnamed hmethM hstM hkP hkPi hy (a := b) (cell := cellB) hcell
    (fun z h => by rw [h] at hobj; cases hobj) hselP hmethM habM hkP hkPi (g := g) hg (argsL := argsL) (rest := rest) (hlen _ hsigM) hstack hdg
  obtain ⟨v, B, X', hpost, hsteps⟩ := hK m meth c ⟨T.setVm vm₁, locs, cells, slots⟩ { g with stack := rest } (.invokevirtual index) mk (Value.ref b :: argsL).toArray X₁ hg hsize hdg hW (X₁.named hnamed) (hpre vm₁ X₁.warmed)
  exact ⟨v, vm₁, B, X₁.warmed, X', hpost, fun target h => hstep₁ _ fun acts => by rw [doInvoke_state]; exact hsteps.trans h⟩
abbrev vx_CVW (R : Room) (s : State) (args : Array Value) (own C : String) (index : Nat) (y : MethodName) (bytes : ByteArray) (maxL : Nat) (ret : Option FieldType) (hh : List (Nat × Nat × Nat × Nat)) (ws : List Cond) (rm : Room) (mc ms n : Nat) : Prop :=
  (rm.cells = mc ∧ rm.slots = ms ∧ rm.frames + 1 ≤ R.frames ∧ 8 + (maxL + 11) + rm.locals ≤ R.locals ∧ (∀ w ∈ ws, ∀ (a' : Array Value) (U : State), s.WarmedH U.vm → w.before a' U = true) ∧ Cond.codeWith y bytes maxL ret hh ∈ ws) ∧
  (Cond.codeWith y bytes maxL ret hh).before args s = true ∧ (Cond.initialized y.cls).before args s = true ∧ (y.cls ≠ "java/lang/invoke/MethodHandle" ∧ y.cls ≠ "java/lang/invoke/VarHandle") ∧
  (∀ sig, parseMethodDescriptor y.desc = some sig → n = sig.parameters.length) ∧ (Cond.methodLink own index y).before args s = true ∧ (Cond.instanceMethod y).before args s = true ∧ (Cond.selects C y y).before args s = true
theorem vx_cwVW {own C : String} {index maxL mc ms : Nat} {y : MethodName} {bytes : ByteArray} {ret : Option FieldType} {hh : List (Nat × Nat × Nat × Nat)} {Ts ws ws' : List Cond} {rm : Room} (n : Nat) (ht : ∀ w ∈ Ts, w.before args s = true) (hT : GoodIn Ts (wsV own index C y ws)) (hw : ws = Cond.codeWith y bytes maxL ret hh :: ws') (hrc : rm.cells = mc) (hrs : rm.slots = ms)
    (hd : y.cls = C ∧ y.cls ≠ "java/lang/invoke/MethodHandle" ∧ y.cls ≠ "java/lang/invoke/VarHandle" ∧ (parseMethodDescriptor y.desc).map (fun d => d.parameters.length) = some n) (hR : rm.frames + 1 ≤ R.frames ∧ 8 + (maxL + 11) + rm.locals ≤ R.locals) :
    vx_CVW R s args own C index y bytes maxL ret hh ws rm mc ms n := by
  obtain ⟨hC, hd⟩ := hd
  subst hC
  have ok : ∀ w ∈ wsV own index y.cls y ws, w.before args s = true := fun w h => ht w (hT w h).1
  have hG : GoodIn Ts ws := fun w h => hT w (by unfold wsV; exact List.mem_append_right _ h)
  have hc : Cond.codeWith y bytes maxL ret hh ∈ ws := by rw [hw]; exact List.mem_cons_self
  refine ⟨⟨hrc, hrs, hR.1, hR.2, pay_in ht hG, hc⟩, ht _ (hG _ hc).1, ok _ (by simp [wsV]), ⟨hd.1, hd.2.1⟩, fun sig h => ?_, ok _ (by simp [wsV]), ok _ (by simp [wsV]), ok _ (by simp [wsV])⟩
  have h2 := hd.2.2
  rw [h] at h2
  exact (Option.some.inj h2).symm
theorem vx_runVW {y : MethodName} {bytes cc : ByteArray} {maxL nL mc ms n index : Nat} {ret : Option FieldType} {hh : List (Nat × Nat × Nat × Nat)} {ws : List Cond} {rm : Room} {Pc : Array Value → State → Prop} {Qc : Array Value → State → Outcome → State → Prop} {free : Addr → Prop} {Ts : List Cond} {own C : String} {b : Addr} {As rest : List Value} {g : JFrame}
    (S : CallFix p m c cc nL s args Ts own) (hM : Met l y ws rm Pc Qc mc ms free) (cw : vx_CVW R s args own C index y bytes maxL ret hh ws rm mc ms n) (hp : PreV s H C b Pc As)
    (hg : g.method = m) (hn : As.length = n) (hsize : g.locals.size = nL) (hstack : g.stack = As.reverse ++ .ref b :: rest) (hW : 2 * g.monitorRoom + (rest.map fun v => v.category).sum ≤ 8) (hdg : decode cc g.pc = .ok (.invokevirtual index, 3)) (hf : cells + mc ≤ R.cells ∧ slots + ms ≤ R.slots) :
    va_Run p l e R s m args below meth c H locs cells slots mc ms g rest (Qc (Value.ref b :: As).toArray) free := by
  obtain ⟨⟨hrc, hrs, hfr, hlo, hws, hcw⟩, hcode, hini, hy, hlen, hl, hin, hse⟩ := cw
  have hK : Back l R p e below s args y 3 8 (PreOf R mc ms Pc) (PostOf Qc mc ms free) := va_backW (hh := hh) (bytes := bytes) (maxL := maxL) (ret := ret) hM hp.1 hrc hrs hfr hlo hws hcw (fun a' U hW => word_at hW (Or.inl (by first | rfl | simp [Cond.onTables, Cond.keeps, Cond.steady])) hini)
  obtain ⟨hx, hb, hml, ho, -⟩ := S
  obtain ⟨-, ⟨cellB, hcB, hoB, hclB⟩, hPc⟩ := hp
  intro T hT X
  obtain ⟨v, vm₁, ⟨U', l2, c2, s2⟩, hW₁, X', ⟨g', mk, t, L, e1, e2, hq, h1, hL, h2, h3⟩, st⟩ := vx_callVW X hx (C := C) (hh := hh) (bytes := bytes) (maxL := maxL) (ret := ret) ho hl hin hse hcode hy hK (by rw [hT]; exact hcB) hoB hclB hg (hsize.trans hml.symm) (argsL := As) (rest := rest) (fun sig h => hn.trans (hlen sig h)) hstack hW (by rw [hb]; exact hdg)
    (fun vm₁ hW₁ => ⟨hf.1, hf.2, hPc (T.setVm vm₁) hT hW₁⟩)
  dsimp only [Pt.U, Pt.locs, Pt.cells, Pt.slots] at X' e1 e2 h1 h2 h3 st
  subst h1; subst h2; subst h3
  exact ⟨v, (T.setVm vm₁).calling g' mk (Value.ref b :: As).toArray, t, U', L, hT, X', hL, e1, e2, hq, st⟩
section
variable {y : MethodName} {bytes cc : ByteArray} {maxL nL mc ms n index : Nat} {ret : Option FieldType} {ws : List Cond} {rm : Room} {Pc : Array Value → State → Prop} {Qc : Array Value → State → Outcome → State → Prop} {XC : String → State → State → Prop} {free : Addr → Prop} {Ts : List Cond} {own C : String} {b : Addr} {As rest : List Value} {g : JFrame}
theorem vx_runVX {hh : List (Nat × Nat × Nat × Nat)} (S : CallFix p m c cc nL s args Ts own) (hM : vx_Met l y ws rm Pc Qc XC mc ms free) (cw : vx_CVW R s args own C index y bytes maxL ret hh ws rm mc ms n) (hp : PreV s H C b Pc As)
    (hg : g.method = m) (hn : As.length = n) (hsize : g.locals.size = nL) (hstack : g.stack = As.reverse ++ .ref b :: rest) (hW : 2 * g.monitorRoom + (rest.map fun v => v.category).sum ≤ 8) (hdg : decode cc g.pc = .ok (.invokevirtual index, 3)) (hf : cells + mc ≤ R.cells ∧ slots + ms ≤ R.slots) :
    vx_Run p l e R s m args below meth c H locs cells slots mc ms g rest (Qc (Value.ref b :: As).toArray) XC free := by
  obtain ⟨⟨hrc, hrs, hfr, hlo, hws, hcw⟩, hcode, hini, hy, hlen, hl, hin, hse⟩ := cw
  have hK : vx_Back l R p e below s args y 3 8 (PreOf R mc ms Pc) (PostOf Qc mc ms free) (vx_Post XC mc ms free) := vx_backW (hh := hh) (bytes := bytes) (maxL := maxL) (ret := ret) hM hp.1 hrc hrs hfr hlo hws hcw (fun a' U hW => word_at hW (Or.inl (by first | rfl | simp [Cond.onTables, Cond.keeps, Cond.steady])) hini)
  obtain ⟨hx, hb, hml, ho, -⟩ := S
  obtain ⟨-, ⟨cellB, hcB, hoB, hclB⟩, hPc⟩ := hp
  intro T hT X
  rcases vx_callVX X hx (C := C) (hh := hh) (bytes := bytes) (maxL := maxL) (ret := ret) ho hl hin hse hcode hy hK (by rw [hT]; exact hcB) hoB hclB hg (hsize.trans hml.symm) (argsL := As) (rest := rest) (fun sig h => hn.trans (hlen sig h)) hstack hW (by rw [hb]; exact hdg)
    (fun vm₁ hW₁ => ⟨hf.1, hf.2, hPc (T.setVm vm₁) hT hW₁⟩) with ⟨v, vm₁, ⟨U', l2, c2, s2⟩, hW₁, X', ⟨g', mk, t, L, e1, e2, hq, h1, hL, h2, h3⟩, st⟩ | ⟨q, vm₁, ⟨U', l2, c2, s2⟩, hW₁, X', ⟨g', mk, t, L, E, ce, e1, e2, hq, hce, hcv, hcl, h1, hL, h2, h3⟩, st⟩
  · dsimp only [Pt.U, Pt.locs, Pt.cells, Pt.slots] at X' e1 e2 h1 h2 h3 st
    subst h1; subst h2; subst h3
    exact Or.inl ⟨v, (T.setVm vm₁).calling g' mk (Value.ref b :: As).toArray, t, U', L, hT, X', hL, e1, e2, hq, st⟩
  · dsimp only [Pt.U, Pt.locs, Pt.cells, Pt.slots] at X' e1 e2 h1 h2 h3 st hcl
    subst h1; subst h2; subst h3
    exact Or.inr ⟨q, (T.setVm vm₁).calling g' mk (Value.ref b :: As).toArray, t, U', L, E, ce, hT, X', hL, e1, e2, hq, hce, hcv, vx_cls hW₁ hcl, st⟩
theorem vx_runSX {hh : List (Nat × Nat × Nat × Nat)} (S : CallFix p m c cc nL s args Ts own) (hM : vx_Met l y ws rm Pc Qc XC mc ms free) (cw : vx_CSW R s args own index y bytes maxL ret hh ws rm mc ms n) (hp : PreS s H Pc As)
    (hg : g.method = m) (hn : As.length = n) (hsize : g.locals.size = nL) (hstack : g.stack = As.reverse ++ rest) (hW : 2 * g.monitorRoom + (rest.map fun v => v.category).sum ≤ 8) (hdg : decode cc g.pc = .ok (.invokestatic index, 3)) (hf : cells + mc ≤ R.cells ∧ slots + ms ≤ R.slots) :
    vx_Run p l e R s m args below meth c H locs cells slots mc ms g rest (Qc As.toArray) XC free := by
  obtain ⟨⟨hrc, hrs, hfr, hlo, hws, hcw⟩, hcode, hini, hy, hlen, hl, hstt⟩ := cw
  have hK : vx_Back l R p e below s args y 3 8 (PreOf R mc ms Pc) (PostOf Qc mc ms free) (vx_Post XC mc ms free) := vx_backW (hh := hh) (bytes := bytes) (maxL := maxL) (ret := ret) hM hp.1 hrc hrs hfr hlo hws hcw (fun a' U hW => word_at hW (Or.inl (by first | rfl | simp [Cond.onTables, Cond.keeps, Cond.steady])) hini)
  obtain ⟨hx, hb, hml, ho, -⟩ := S
  intro T hT X
  rcases vx_callSX X hx (hh := hh) (bytes := bytes) (maxL := maxL) (ret := ret) ho hl hstt hini hcode hy hK hg (hsize.trans hml.symm) (argsL := As) (rest := rest) (fun sig h => hn.trans (hlen sig h)) hstack hW (by rw [hb]; exact hdg)
    (fun vm₁ hW₁ => ⟨hf.1, hf.2, hp.2 (T.setVm vm₁) hT hW₁⟩) with ⟨v, vm₁, ⟨U', l2, c2, s2⟩, hW₁, X', ⟨g', mk, t, L, e1, e2, hq, h1, hL, h2, h3⟩, st⟩ | ⟨q, vm₁, ⟨U', l2, c2, s2⟩, hW₁, X', ⟨g', mk, t, L, E, ce, e1, e2, hq, hce, hcv, hcl, h1, hL, h2, h3⟩, st⟩
  · dsimp only [Pt.U, Pt.locs, Pt.cells, Pt.slots] at X' e1 e2 h1 h2 h3 st
    subst h1; subst h2; subst h3
    exact Or.inl ⟨v, (T.setVm vm₁).calling g' mk As.toArray, t, U', L, hT, X', hL, e1, e2, hq, st⟩
  · dsimp only [Pt.U, Pt.locs, Pt.cells, Pt.slots] at X' e1 e2 h1 h2 h3 st hcl
    subst h1; subst h2; subst h3
    exact Or.inr ⟨q, (T.setVm vm₁).calling g' mk As.toArray, t, U', L, E, ce, hT, X', hL, e1, e2, hq, hce, hcv, vx_cls hW₁ hcl, st⟩
end
end VXH
theorem vx_ofWH {l : Launch} {y : MethodName} {ws ws' : List Cond} {rm : Room} {Pc : Array Value → State → Prop} {Qc : Array Value → State → Outcome → State → Prop} {XC : String → State → State → Prop} {mc ms : Nat} {free : Addr → Prop} {cc : ByteArray} {maxL : Nat} {ret : Option FieldType} {hh : List (Nat × Nat × Nat × Nat)}
    (hy : plainName y.cls = true) (hw : ws = Cond.codeWith y cc maxL ret hh :: ws')
    (body : ∀ p e s m args below meth c s₁, BodyLoose p l y (headSpec ws rm) cc maxL ret e s m args below meth c s₁ → c.maxLocals = maxL → Pc args s →
      W p l e (headSpec ws rm).room s m args below meth c s.heap [] 0 0 (vx_MQ below Qc XC args s mc ms free) (entryFrame m args maxL)) : vx_Met l y ws rm Pc Qc XC mc ms free := by
  refine MetFree.of_bodyS (code := cc) (maxLocals := maxL) (ret := ret) hy ?_ ?_
  · intro args s m h hn
    obtain ⟨m9, meth, c, hn9, h1, h2, h3, h4, -, h5, h6, -⟩ := Cond.codeWith_spec (atoms_spec (ws := ws) h _ (by rw [hw]; exact List.mem_cons_self))
    cases hn.symm.trans hn9
    exact ⟨meth, c, h1, h2, h3, h4, h5, h6⟩
  · intro p e s m args below meth c s₁ B hml hP _
    have hh0 : s₁.heap = s.heap := by rw [B.state]; rfl
    obtain ⟨t, a1, o, b1, b2, b3⟩ := body p e s m args below meth c s₁ B hml hP s₁ hh0 (Stand.of_body B)
    exact ⟨t, o, a1, b1, b2, b3⟩
/-! ===== END ===== -/
end
section
/-! ===== BEGIN printed: names, fields, word lists, decode rows ===== -/
def RX0 : String := "PathOdds"
def TX0 : u_T := fun k => match k with
  | 0 => ("PathOdds", "stateCount", "I", false)
  | 1 => ("PathOdds", "rowLength", "I", false)
  | 2 => ("PathOdds", "row", "[I", true)
  | 3 => ("PathOdds", "startWeights", "[D", true)
  | 4 => ("PathOdds", "moveWeights", "[[D", true)
  | 5 => ("PathOdds", "showWeights", "[[D", true)
  | 6 => ("PathOdds", "forwardTable", "[[D", true)
  | 7 => ("PathOdds", "backwardTable", "[[D", true)
  | 8 => ("PathOdds", "bestTable", "[[D", true)
  | 9 => ("PathOdds", "fromTable", "[[I", true)
  | _ => ("PathOdds", "countTable", "[[J", true)
def tyX0 : Nat → FieldType := fun k => match k with
  | 0 => .int
  | 1 => .int
  | 2 => .array .int
  | 3 => .array .double
  | 4 => .array (.array .double)
  | 5 => .array (.array .double)
  | 6 => .array (.array .double)
  | 7 => .array (.array .double)
  | 8 => .array (.array .double)
  | 9 => .array (.array .int)
  | _ => .array (.array .long)
abbrev wsX00 : List Cond := u_ws RX0 TX0 11
theorem nmX0 : ∀ a, a < 11 → ∀ b, b < 11 → a ≠ b → (TX0 a).2.1 ≠ (TX0 b).2.1 := by decide +kernel
theorem tyX0_ok : ∀ k, k < 11 → parseFieldDescriptor (TX0 k).2.2.1 = some (tyX0 k) := by decide +kernel
abbrev cX0_init : ByteArray := prog_1_method_1_code
def yX0_init : MethodName := ⟨RX0, "<init>", "()V"⟩
abbrev cX0_states : ByteArray := prog_1_method_2_code
def yX0_states : MethodName := ⟨RX0, "states", "(I)Z"⟩
abbrev cX0_size : ByteArray := prog_1_method_3_code
def yX0_size : MethodName := ⟨RX0, "size", "()I"⟩
abbrev cX0_start : ByteArray := prog_1_method_4_code
def yX0_start : MethodName := ⟨RX0, "start", "(ID)Z"⟩
abbrev cX0_move : ByteArray := prog_1_method_5_code
def yX0_move : MethodName := ⟨RX0, "move", "(IID)Z"⟩
abbrev cX0_show : ByteArray := prog_1_method_6_code
def yX0_show : MethodName := ⟨RX0, "show", "(IID)Z"⟩
abbrev cX0_read : ByteArray := prog_1_method_7_code
def yX0_read : MethodName := ⟨RX0, "read", "(I)Z"⟩
abbrev cX0_unread : ByteArray := prog_1_method_8_code
def yX0_unread : MethodName := ⟨RX0, "unread", "()Z"⟩
abbrev cX0_length : ByteArray := prog_1_method_9_code
def yX0_length : MethodName := ⟨RX0, "length", "()I"⟩
abbrev cX0_forward : ByteArray := prog_1_method_10_code
def yX0_forward : MethodName := ⟨RX0, "forward", "(II)D"⟩
abbrev cX0_backward : ByteArray := prog_1_method_11_code
def yX0_backward : MethodName := ⟨RX0, "backward", "(II)D"⟩
abbrev cX0_total : ByteArray := prog_1_method_12_code
def yX0_total : MethodName := ⟨RX0, "total", "()D"⟩
abbrev cX0_best : ByteArray := prog_1_method_13_code
def yX0_best : MethodName := ⟨RX0, "best", "()D"⟩
abbrev cX0_bestState : ByteArray := prog_1_method_14_code
def yX0_bestState : MethodName := ⟨RX0, "bestState", "(I)I"⟩
abbrev cX0_share : ByteArray := prog_1_method_15_code
def yX0_share : MethodName := ⟨RX0, "share", "(II)D"⟩
abbrev cX0_possible : ByteArray := prog_1_method_16_code
def yX0_possible : MethodName := ⟨RX0, "possible", "()J"⟩
abbrev cX0_isState : ByteArray := prog_1_method_17_code
def yX0_isState : MethodName := ⟨RX0, "isState", "(I)Z"⟩
abbrev cX0_isPlace : ByteArray := prog_1_method_18_code
def yX0_isPlace : MethodName := ⟨RX0, "isPlace", "(I)Z"⟩
abbrev cX0_isSymbol : ByteArray := prog_1_method_19_code
def yX0_isSymbol : MethodName := ⟨RX0, "isSymbol", "(I)Z"⟩
abbrev cX0_isWeight : ByteArray := prog_1_method_20_code
def yX0_isWeight : MethodName := ⟨RX0, "isWeight", "(D)Z"⟩
abbrev cX0_refuseWrongPlace : ByteArray := prog_1_method_21_code
def yX0_refuseWrongPlace : MethodName := ⟨RX0, "refuseWrongPlace", "(II)V"⟩
abbrev cX0_clearWeights : ByteArray := prog_1_method_22_code
def yX0_clearWeights : MethodName := ⟨RX0, "clearWeights", "()V"⟩
abbrev cX0_weightShown : ByteArray := prog_1_method_23_code
def yX0_weightShown : MethodName := ⟨RX0, "weightShown", "(II)D"⟩
abbrev cX0_fillForward : ByteArray := prog_1_method_24_code
def yX0_fillForward : MethodName := ⟨RX0, "fillForward", "()V"⟩
abbrev cX0_sumInto : ByteArray := prog_1_method_25_code
def yX0_sumInto : MethodName := ⟨RX0, "sumInto", "(II)D"⟩
abbrev cX0_sumAtLast : ByteArray := prog_1_method_26_code
def yX0_sumAtLast : MethodName := ⟨RX0, "sumAtLast", "()D"⟩
abbrev cX0_fillBackward : ByteArray := prog_1_method_27_code
def yX0_fillBackward : MethodName := ⟨RX0, "fillBackward", "()V"⟩
abbrev cX0_sumOutOf : ByteArray := prog_1_method_28_code
def yX0_sumOutOf : MethodName := ⟨RX0, "sumOutOf", "(II)D"⟩
abbrev cX0_fillBest : ByteArray := prog_1_method_29_code
def yX0_fillBest : MethodName := ⟨RX0, "fillBest", "()V"⟩
abbrev cX0_lowestBestInto : ByteArray := prog_1_method_30_code
def yX0_lowestBestInto : MethodName := ⟨RX0, "lowestBestInto", "(II)I"⟩
abbrev cX0_lowestBestAtLast : ByteArray := prog_1_method_31_code
def yX0_lowestBestAtLast : MethodName := ⟨RX0, "lowestBestAtLast", "()I"⟩
abbrev cX0_fillCounts : ByteArray := prog_1_method_32_code
def yX0_fillCounts : MethodName := ⟨RX0, "fillCounts", "()V"⟩
abbrev cX0_countInto : ByteArray := prog_1_method_33_code
def yX0_countInto : MethodName := ⟨RX0, "countInto", "(II)J"⟩
def RX1 : String := "PathOddsModel"
def TX1 : u_T := fun k => match k with
  | 0 => ("PathOddsModel", "n", "I", false)
  | 1 => ("PathOddsModel", "length", "I", false)
  | 2 => ("PathOddsModel", "thrown", "I", false)
  | 3 => ("PathOddsModel", "starts", "[D", true)
  | 4 => ("PathOddsModel", "moves", "[D", true)
  | 5 => ("PathOddsModel", "shows", "[D", true)
  | 6 => ("PathOddsModel", "row", "[I", true)
  | 7 => ("PathOddsModel", "now", "[D", true)
  | 8 => ("PathOddsModel", "old", "[D", true)
  | 9 => ("PathOddsModel", "counts", "[J", true)
  | _ => ("PathOddsModel", "before", "[J", true)
def tyX1 : Nat → FieldType := fun k => match k with
  | 0 => .int
  | 1 => .int
  | 2 => .int
  | 3 => .array .double
  | 4 => .array .double
  | 5 => .array .double
  | 6 => .array .int
  | 7 => .array .double
  | 8 => .array .double
  | 9 => .array .long
  | _ => .array .long
abbrev wsX10 : List Cond := u_ws RX1 TX1 11
theorem nmX1 : ∀ a, a < 11 → ∀ b, b < 11 → a ≠ b → (TX1 a).2.1 ≠ (TX1 b).2.1 := by decide +kernel
theorem tyX1_ok : ∀ k, k < 11 → parseFieldDescriptor (TX1 k).2.2.1 = some (tyX1 k) := by decide +kernel
abbrev cX1_init : ByteArray := prog_3_method_1_code
def yX1_init : MethodName := ⟨RX1, "<init>", "()V"⟩
abbrev cX1_thrown : ByteArray := prog_3_method_2_code
def yX1_thrown : MethodName := ⟨RX1, "thrown", "()I"⟩
abbrev cX1_unit : ByteArray := prog_3_method_3_code
def yX1_unit : MethodName := ⟨RX1, "unit", "(D)Z"⟩
abbrev cX1_state : ByteArray := prog_3_method_4_code
def yX1_state : MethodName := ⟨RX1, "state", "(I)Z"⟩
abbrev cX1_symbol : ByteArray := prog_3_method_5_code
def yX1_symbol : MethodName := ⟨RX1, "symbol", "(I)Z"⟩
abbrev cX1_states : ByteArray := prog_3_method_6_code
def yX1_states : MethodName := ⟨RX1, "states", "(I)Z"⟩
abbrev cX1_size : ByteArray := prog_3_method_7_code
def yX1_size : MethodName := ⟨RX1, "size", "()I"⟩
abbrev cX1_start : ByteArray := prog_3_method_8_code
def yX1_start : MethodName := ⟨RX1, "start", "(ID)Z"⟩
abbrev cX1_move : ByteArray := prog_3_method_9_code
def yX1_move : MethodName := ⟨RX1, "move", "(IID)Z"⟩
abbrev cX1_show : ByteArray := prog_3_method_10_code
def yX1_show : MethodName := ⟨RX1, "show", "(IID)Z"⟩
abbrev cX1_read : ByteArray := prog_3_method_11_code
def yX1_read : MethodName := ⟨RX1, "read", "(I)Z"⟩
abbrev cX1_unread : ByteArray := prog_3_method_12_code
def yX1_unread : MethodName := ⟨RX1, "unread", "()Z"⟩
abbrev cX1_length : ByteArray := prog_3_method_13_code
def yX1_length : MethodName := ⟨RX1, "length", "()I"⟩
abbrev cX1_shown : ByteArray := prog_3_method_14_code
def yX1_shown : MethodName := ⟨RX1, "shown", "(II)D"⟩
abbrev cX1_shift : ByteArray := prog_3_method_15_code
def yX1_shift : MethodName := ⟨RX1, "shift", "()V"⟩
abbrev cX1_ahead : ByteArray := prog_3_method_16_code
def yX1_ahead : MethodName := ⟨RX1, "ahead", "(I)V"⟩
abbrev cX1_behind : ByteArray := prog_3_method_17_code
def yX1_behind : MethodName := ⟨RX1, "behind", "(I)V"⟩
abbrev cX1_greatest : ByteArray := prog_3_method_18_code
def yX1_greatest : MethodName := ⟨RX1, "greatest", "(I)V"⟩
abbrev cX1_from : ByteArray := prog_3_method_19_code
def yX1_from : MethodName := ⟨RX1, "from", "(I)I"⟩
abbrev cX1_fault : ByteArray := prog_3_method_20_code
def yX1_fault : MethodName := ⟨RX1, "fault", "(II)I"⟩
abbrev cX1_forward : ByteArray := prog_3_method_21_code
def yX1_forward : MethodName := ⟨RX1, "forward", "(II)D"⟩
abbrev cX1_backward : ByteArray := prog_3_method_22_code
def yX1_backward : MethodName := ⟨RX1, "backward", "(II)D"⟩
abbrev cX1_all : ByteArray := prog_3_method_23_code
def yX1_all : MethodName := ⟨RX1, "all", "()D"⟩
abbrev cX1_total : ByteArray := prog_3_method_24_code
def yX1_total : MethodName := ⟨RX1, "total", "()D"⟩
abbrev cX1_last : ByteArray := prog_3_method_25_code
def yX1_last : MethodName := ⟨RX1, "last", "()I"⟩
abbrev cX1_best : ByteArray := prog_3_method_26_code
def yX1_best : MethodName := ⟨RX1, "best", "()D"⟩
abbrev cX1_bestState : ByteArray := prog_3_method_27_code
def yX1_bestState : MethodName := ⟨RX1, "bestState", "(I)I"⟩
abbrev cX1_share : ByteArray := prog_3_method_28_code
def yX1_share : MethodName := ⟨RX1, "share", "(II)D"⟩
abbrev cX1_possible : ByteArray := prog_3_method_29_code
def yX1_possible : MethodName := ⟨RX1, "possible", "()J"⟩
def RJ0 : String := "java/lang/String"
def TJ0 : u_T := fun k => match k with
  | _ => ("", "", "", false)
def tyJ0 : Nat → FieldType := fun k => match k with
  | _ => .int
abbrev wsJ00 : List Cond := u_ws RJ0 TJ0 0
theorem nmJ0 : ∀ a, a < 0 → ∀ b, b < 0 → a ≠ b → (TJ0 a).2.1 ≠ (TJ0 b).2.1 := by decide +kernel
theorem tyJ0_ok : ∀ k, k < 0 → parseFieldDescriptor (TJ0 k).2.2.1 = some (tyJ0 k) := by decide +kernel
def RL : String := "PathOddsLaw"
abbrev cL_forward : ByteArray := method_3_code
def yL_forward : MethodName := ⟨RL, "forward", "(LPathOdds;II[D)I"⟩
abbrev cL_backward : ByteArray := method_4_code
def yL_backward : MethodName := ⟨RL, "backward", "(LPathOdds;II[D)I"⟩
abbrev cL_share : ByteArray := method_5_code
def yL_share : MethodName := ⟨RL, "share", "(LPathOdds;II[D)I"⟩
abbrev cL_law : ByteArray := code
def yL_law : MethodName := ⟨RL, "law", "([I)Z"⟩
def wsX0_init : List Cond := .code yX0_init cX0_init 1 none :: ([.methodLink RX0 1 objectInit, .instanceMethod objectInit, .code objectInit ⟨#[0xb1]⟩ 1 none, .fieldLink RX0 7 "PathOdds" "stateCount" "I", .fieldLink RX0 13 "PathOdds" "rowLength" "I", .arrayClass .int, .fieldLink RX0 16 "PathOdds" "row" "[I", .arrayClass .double, .fieldLink RX0 20 "PathOdds" "startWeights" "[D", .classLink RX0 24 "[[D", .fieldLink RX0 26 "PathOdds" "moveWeights" "[[D", .fieldLink RX0 29 "PathOdds" "showWeights" "[[D", .fieldLink RX0 32 "PathOdds" "forwardTable" "[[D", .fieldLink RX0 35 "PathOdds" "backwardTable" "[[D", .fieldLink RX0 38 "PathOdds" "bestTable" "[[D", .classLink RX0 41 "[[I", .fieldLink RX0 43 "PathOdds" "fromTable" "[[I", .classLink RX0 46 "[[J", .arrayClass .long, .fieldLink RX0 48 "PathOdds" "countTable" "[[J"] ++ wsX00)
def wsX0_clearWeights : List Cond := .code yX0_clearWeights cX0_clearWeights 3 none :: ([.fieldLink RX0 20 "PathOdds" "startWeights" "[D", .fieldLink RX0 26 "PathOdds" "moveWeights" "[[D", .fieldLink RX0 29 "PathOdds" "showWeights" "[[D"] ++ wsX00)
def wsX0_states : List Cond := .code yX0_states cX0_states 2 (some .boolean) :: ([.fieldLink RX0 7 "PathOdds" "stateCount" "I", .fieldLink RX0 13 "PathOdds" "rowLength" "I", .methodLink RX0 51 yX0_clearWeights, .instanceMethod yX0_clearWeights, .selects RX0 yX0_clearWeights yX0_clearWeights, .initialized RX0, .code yX0_clearWeights cX0_clearWeights 3 none, .fieldLink RX0 20 "PathOdds" "startWeights" "[D", .fieldLink RX0 26 "PathOdds" "moveWeights" "[[D", .fieldLink RX0 29 "PathOdds" "showWeights" "[[D"] ++ wsX00)
def wsX0_size : List Cond := .code yX0_size cX0_size 1 (some .int) :: ([.fieldLink RX0 7 "PathOdds" "stateCount" "I"] ++ wsX00)
def wsX0_isState : List Cond := .code yX0_isState cX0_isState 2 (some .boolean) :: ([.fieldLink RX0 7 "PathOdds" "stateCount" "I"] ++ wsX00)
def wsX0_isWeight : List Cond := .code yX0_isWeight cX0_isWeight 2 (some .boolean) :: ([])
def wsX0_start : List Cond := .code yX0_start cX0_start 4 (some .boolean) :: ([.fieldLink RX0 20 "PathOdds" "startWeights" "[D", .methodLink RX0 54 yX0_isState, .instanceMethod yX0_isState, .selects RX0 yX0_isState yX0_isState, .initialized RX0, .code yX0_isState cX0_isState 2 (some .boolean), .fieldLink RX0 7 "PathOdds" "stateCount" "I", .methodLink RX0 58 yX0_isWeight, .static yX0_isWeight, .code yX0_isWeight cX0_isWeight 2 (some .boolean)] ++ wsX00)
def wsX0_move : List Cond := .code yX0_move cX0_move 5 (some .boolean) :: ([.fieldLink RX0 26 "PathOdds" "moveWeights" "[[D", .methodLink RX0 54 yX0_isState, .instanceMethod yX0_isState, .selects RX0 yX0_isState yX0_isState, .initialized RX0, .code yX0_isState cX0_isState 2 (some .boolean), .fieldLink RX0 7 "PathOdds" "stateCount" "I", .methodLink RX0 58 yX0_isWeight, .static yX0_isWeight, .code yX0_isWeight cX0_isWeight 2 (some .boolean)] ++ wsX00)
def wsX0_isSymbol : List Cond := .code yX0_isSymbol cX0_isSymbol 1 (some .boolean) :: ([])
def wsX0_show : List Cond := .code yX0_show cX0_show 5 (some .boolean) :: ([.fieldLink RX0 29 "PathOdds" "showWeights" "[[D", .methodLink RX0 54 yX0_isState, .instanceMethod yX0_isState, .selects RX0 yX0_isState yX0_isState, .initialized RX0, .code yX0_isState cX0_isState 2 (some .boolean), .fieldLink RX0 7 "PathOdds" "stateCount" "I", .methodLink RX0 62 yX0_isSymbol, .static yX0_isSymbol, .code yX0_isSymbol cX0_isSymbol 1 (some .boolean), .methodLink RX0 58 yX0_isWeight, .static yX0_isWeight, .code yX0_isWeight cX0_isWeight 2 (some .boolean)] ++ wsX00)
def wsX0_read : List Cond := .code yX0_read cX0_read 2 (some .boolean) :: ([.fieldLink RX0 13 "PathOdds" "rowLength" "I", .fieldLink RX0 16 "PathOdds" "row" "[I", .methodLink RX0 62 yX0_isSymbol, .static yX0_isSymbol, .initialized RX0, .code yX0_isSymbol cX0_isSymbol 1 (some .boolean)] ++ wsX00)
def wsX0_unread : List Cond := .code yX0_unread cX0_unread 1 (some .boolean) :: ([.fieldLink RX0 13 "PathOdds" "rowLength" "I"] ++ wsX00)
def wsX0_length : List Cond := .code yX0_length cX0_length 1 (some .int) :: ([.fieldLink RX0 13 "PathOdds" "rowLength" "I"] ++ wsX00)
def wsX0_isPlace : List Cond := .code yX0_isPlace cX0_isPlace 2 (some .boolean) :: ([.fieldLink RX0 13 "PathOdds" "rowLength" "I"] ++ wsX00)
def wsX0_refuseWrongPlace : List Cond := .code yX0_refuseWrongPlace cX0_refuseWrongPlace 3 none :: ([.classLink RX0 99 "java/lang/IndexOutOfBoundsException", .initialized "java/lang/IndexOutOfBoundsException", .classLink RX0 104 "java/lang/IllegalArgumentException", .initialized "java/lang/IllegalArgumentException", .methodLink RX0 86 yX0_isPlace, .instanceMethod yX0_isPlace, .selects RX0 yX0_isPlace yX0_isPlace, .initialized RX0, .code yX0_isPlace cX0_isPlace 2 (some .boolean), .fieldLink RX0 13 "PathOdds" "rowLength" "I", .methodLink RX0 54 yX0_isState, .instanceMethod yX0_isState, .selects RX0 yX0_isState yX0_isState, .code yX0_isState cX0_isState 2 (some .boolean), .fieldLink RX0 7 "PathOdds" "stateCount" "I"] ++ wsX00 ++ (vx_atS RX0 103 "java/lang/IndexOutOfBoundsException" ["java/lang/RuntimeException", "java/lang/Exception"]).filter goodWord ++ (vx_atS RX0 108 "java/lang/IllegalArgumentException" ["java/lang/RuntimeException", "java/lang/Exception"]).filter goodWord)
def wsX0_sumInto : List Cond := .code yX0_sumInto cX0_sumInto 6 (some .double) :: ([.fieldLink RX0 7 "PathOdds" "stateCount" "I", .fieldLink RX0 32 "PathOdds" "forwardTable" "[[D", .fieldLink RX0 26 "PathOdds" "moveWeights" "[[D"] ++ wsX00)
def wsX0_weightShown : List Cond := .code yX0_weightShown cX0_weightShown 3 (some .double) :: ([.fieldLink RX0 29 "PathOdds" "showWeights" "[[D", .fieldLink RX0 16 "PathOdds" "row" "[I"] ++ wsX00)
def wsX0_fillForward : List Cond := .code yX0_fillForward cX0_fillForward 5 none :: ([.fieldLink RX0 13 "PathOdds" "rowLength" "I", .fieldLink RX0 7 "PathOdds" "stateCount" "I", .fieldLink RX0 20 "PathOdds" "startWeights" "[D", .fieldLink RX0 32 "PathOdds" "forwardTable" "[[D", .methodLink RX0 109 yX0_sumInto, .instanceMethod yX0_sumInto, .selects RX0 yX0_sumInto yX0_sumInto, .initialized RX0, .code yX0_sumInto cX0_sumInto 6 (some .double), .fieldLink RX0 26 "PathOdds" "moveWeights" "[[D", .methodLink RX0 113 yX0_weightShown, .instanceMethod yX0_weightShown, .selects RX0 yX0_weightShown yX0_weightShown, .code yX0_weightShown cX0_weightShown 3 (some .double), .fieldLink RX0 29 "PathOdds" "showWeights" "[[D", .fieldLink RX0 16 "PathOdds" "row" "[I"] ++ wsX00)
def wsX0_forward_r1 : List Cond := [Cond.fieldLink RX0 32 "PathOdds" "forwardTable" "[[D", Cond.methodLink RX0 65 yX0_refuseWrongPlace, Cond.instanceMethod yX0_refuseWrongPlace, Cond.selects RX0 yX0_refuseWrongPlace yX0_refuseWrongPlace, Cond.initialized RX0, Cond.code yX0_refuseWrongPlace cX0_refuseWrongPlace 3 none, Cond.classLink RX0 99 "java/lang/IndexOutOfBoundsException", Cond.initialized "java/lang/IndexOutOfBoundsException", Cond.classLink RX0 104 "java/lang/IllegalArgumentException", Cond.initialized "java/lang/IllegalArgumentException", Cond.methodLink RX0 86 yX0_isPlace, Cond.instanceMethod yX0_isPlace, Cond.selects RX0 yX0_isPlace yX0_isPlace, Cond.code yX0_isPlace cX0_isPlace 2 (some .boolean), Cond.fieldLink RX0 13 "PathOdds" "rowLength" "I", Cond.methodLink RX0 54 yX0_isState, Cond.instanceMethod yX0_isState, Cond.selects RX0 yX0_isState yX0_isState, Cond.code yX0_isState cX0_isState 2 (some .boolean), Cond.fieldLink RX0 7 "PathOdds" "stateCount" "I", Cond.methodLink RX0 69 yX0_fillForward, Cond.instanceMethod yX0_fillForward, Cond.selects RX0 yX0_fillForward yX0_fillForward, Cond.code yX0_fillForward cX0_fillForward 5 none]
def wsX0_forward_r2 : List Cond := [Cond.fieldLink RX0 20 "PathOdds" "startWeights" "[D", Cond.methodLink RX0 109 yX0_sumInto, Cond.instanceMethod yX0_sumInto, Cond.selects RX0 yX0_sumInto yX0_sumInto, Cond.code yX0_sumInto cX0_sumInto 6 (some .double), Cond.fieldLink RX0 26 "PathOdds" "moveWeights" "[[D", Cond.methodLink RX0 113 yX0_weightShown, Cond.instanceMethod yX0_weightShown, Cond.selects RX0 yX0_weightShown yX0_weightShown, Cond.code yX0_weightShown cX0_weightShown 3 (some .double), Cond.fieldLink RX0 29 "PathOdds" "showWeights" "[[D", Cond.fieldLink RX0 16 "PathOdds" "row" "[I"]
def wsX0_forward : List Cond := .code yX0_forward cX0_forward 3 (some .double) :: ((wsX0_forward_r1 ++ wsX0_forward_r2) ++ wsX00 ++ (vx_atS RX0 103 "java/lang/IndexOutOfBoundsException" ["java/lang/RuntimeException", "java/lang/Exception"]).filter goodWord ++ (vx_atS RX0 108 "java/lang/IllegalArgumentException" ["java/lang/RuntimeException", "java/lang/Exception"]).filter goodWord)
def wsX0_sumOutOf : List Cond := .code yX0_sumOutOf cX0_sumOutOf 6 (some .double) :: ([.fieldLink RX0 7 "PathOdds" "stateCount" "I", .fieldLink RX0 26 "PathOdds" "moveWeights" "[[D", .fieldLink RX0 35 "PathOdds" "backwardTable" "[[D", .methodLink RX0 113 yX0_weightShown, .instanceMethod yX0_weightShown, .selects RX0 yX0_weightShown yX0_weightShown, .initialized RX0, .code yX0_weightShown cX0_weightShown 3 (some .double), .fieldLink RX0 29 "PathOdds" "showWeights" "[[D", .fieldLink RX0 16 "PathOdds" "row" "[I"] ++ wsX00)
def wsX0_fillBackward : List Cond := .code yX0_fillBackward cX0_fillBackward 3 none :: ([.fieldLink RX0 13 "PathOdds" "rowLength" "I", .fieldLink RX0 7 "PathOdds" "stateCount" "I", .fieldLink RX0 35 "PathOdds" "backwardTable" "[[D", .methodLink RX0 116 yX0_sumOutOf, .instanceMethod yX0_sumOutOf, .selects RX0 yX0_sumOutOf yX0_sumOutOf, .initialized RX0, .code yX0_sumOutOf cX0_sumOutOf 6 (some .double), .fieldLink RX0 26 "PathOdds" "moveWeights" "[[D", .methodLink RX0 113 yX0_weightShown, .instanceMethod yX0_weightShown, .selects RX0 yX0_weightShown yX0_weightShown, .code yX0_weightShown cX0_weightShown 3 (some .double), .fieldLink RX0 29 "PathOdds" "showWeights" "[[D", .fieldLink RX0 16 "PathOdds" "row" "[I"] ++ wsX00)
def wsX0_backward_r1 : List Cond := [Cond.fieldLink RX0 35 "PathOdds" "backwardTable" "[[D", Cond.methodLink RX0 65 yX0_refuseWrongPlace, Cond.instanceMethod yX0_refuseWrongPlace, Cond.selects RX0 yX0_refuseWrongPlace yX0_refuseWrongPlace, Cond.initialized RX0, Cond.code yX0_refuseWrongPlace cX0_refuseWrongPlace 3 none, Cond.classLink RX0 99 "java/lang/IndexOutOfBoundsException", Cond.initialized "java/lang/IndexOutOfBoundsException", Cond.classLink RX0 104 "java/lang/IllegalArgumentException", Cond.initialized "java/lang/IllegalArgumentException", Cond.methodLink RX0 86 yX0_isPlace, Cond.instanceMethod yX0_isPlace, Cond.selects RX0 yX0_isPlace yX0_isPlace, Cond.code yX0_isPlace cX0_isPlace 2 (some .boolean), Cond.fieldLink RX0 13 "PathOdds" "rowLength" "I", Cond.methodLink RX0 54 yX0_isState, Cond.instanceMethod yX0_isState, Cond.selects RX0 yX0_isState yX0_isState, Cond.code yX0_isState cX0_isState 2 (some .boolean), Cond.fieldLink RX0 7 "PathOdds" "stateCount" "I", Cond.methodLink RX0 72 yX0_fillBackward, Cond.instanceMethod yX0_fillBackward, Cond.selects RX0 yX0_fillBackward yX0_fillBackward, Cond.code yX0_fillBackward cX0_fillBackward 3 none]
def wsX0_backward_r2 : List Cond := [Cond.methodLink RX0 116 yX0_sumOutOf, Cond.instanceMethod yX0_sumOutOf, Cond.selects RX0 yX0_sumOutOf yX0_sumOutOf, Cond.code yX0_sumOutOf cX0_sumOutOf 6 (some .double), Cond.fieldLink RX0 26 "PathOdds" "moveWeights" "[[D", Cond.methodLink RX0 113 yX0_weightShown, Cond.instanceMethod yX0_weightShown, Cond.selects RX0 yX0_weightShown yX0_weightShown, Cond.code yX0_weightShown cX0_weightShown 3 (some .double), Cond.fieldLink RX0 29 "PathOdds" "showWeights" "[[D", Cond.fieldLink RX0 16 "PathOdds" "row" "[I"]
def wsX0_backward : List Cond := .code yX0_backward cX0_backward 3 (some .double) :: ((wsX0_backward_r1 ++ wsX0_backward_r2) ++ wsX00 ++ (vx_atS RX0 103 "java/lang/IndexOutOfBoundsException" ["java/lang/RuntimeException", "java/lang/Exception"]).filter goodWord ++ (vx_atS RX0 108 "java/lang/IllegalArgumentException" ["java/lang/RuntimeException", "java/lang/Exception"]).filter goodWord)
def wsX0_sumAtLast : List Cond := .code yX0_sumAtLast cX0_sumAtLast 4 (some .double) :: ([.fieldLink RX0 7 "PathOdds" "stateCount" "I", .fieldLink RX0 32 "PathOdds" "forwardTable" "[[D", .fieldLink RX0 13 "PathOdds" "rowLength" "I"] ++ wsX00)
def wsX0_total : List Cond := .code yX0_total cX0_total 1 (some .double) :: ([.fieldLink RX0 13 "PathOdds" "rowLength" "I", .methodLink RX0 69 yX0_fillForward, .instanceMethod yX0_fillForward, .selects RX0 yX0_fillForward yX0_fillForward, .initialized RX0, .code yX0_fillForward cX0_fillForward 5 none, .fieldLink RX0 7 "PathOdds" "stateCount" "I", .fieldLink RX0 20 "PathOdds" "startWeights" "[D", .fieldLink RX0 32 "PathOdds" "forwardTable" "[[D", .methodLink RX0 109 yX0_sumInto, .instanceMethod yX0_sumInto, .selects RX0 yX0_sumInto yX0_sumInto, .code yX0_sumInto cX0_sumInto 6 (some .double), .fieldLink RX0 26 "PathOdds" "moveWeights" "[[D", .methodLink RX0 113 yX0_weightShown, .instanceMethod yX0_weightShown, .selects RX0 yX0_weightShown yX0_weightShown, .code yX0_weightShown cX0_weightShown 3 (some .double), .fieldLink RX0 29 "PathOdds" "showWeights" "[[D", .fieldLink RX0 16 "PathOdds" "row" "[I", .methodLink RX0 75 yX0_sumAtLast, .instanceMethod yX0_sumAtLast, .selects RX0 yX0_sumAtLast yX0_sumAtLast, .code yX0_sumAtLast cX0_sumAtLast 4 (some .double)] ++ wsX00)
def wsX0_lowestBestInto : List Cond := .code yX0_lowestBestInto cX0_lowestBestInto 9 (some .int) :: ([.fieldLink RX0 38 "PathOdds" "bestTable" "[[D", .fieldLink RX0 26 "PathOdds" "moveWeights" "[[D", .fieldLink RX0 7 "PathOdds" "stateCount" "I"] ++ wsX00)
def wsX0_fillBest : List Cond := .code yX0_fillBest cX0_fillBest 4 none :: ([.fieldLink RX0 7 "PathOdds" "stateCount" "I", .fieldLink RX0 38 "PathOdds" "bestTable" "[[D", .fieldLink RX0 20 "PathOdds" "startWeights" "[D", .fieldLink RX0 13 "PathOdds" "rowLength" "I", .fieldLink RX0 43 "PathOdds" "fromTable" "[[I", .fieldLink RX0 26 "PathOdds" "moveWeights" "[[D", .methodLink RX0 113 yX0_weightShown, .instanceMethod yX0_weightShown, .selects RX0 yX0_weightShown yX0_weightShown, .initialized RX0, .code yX0_weightShown cX0_weightShown 3 (some .double), .fieldLink RX0 29 "PathOdds" "showWeights" "[[D", .fieldLink RX0 16 "PathOdds" "row" "[I", .methodLink RX0 119 yX0_lowestBestInto, .instanceMethod yX0_lowestBestInto, .selects RX0 yX0_lowestBestInto yX0_lowestBestInto, .code yX0_lowestBestInto cX0_lowestBestInto 9 (some .int)] ++ wsX00)
def wsX0_lowestBestAtLast : List Cond := .code yX0_lowestBestAtLast cX0_lowestBestAtLast 3 (some .int) :: ([.fieldLink RX0 7 "PathOdds" "stateCount" "I", .fieldLink RX0 38 "PathOdds" "bestTable" "[[D", .fieldLink RX0 13 "PathOdds" "rowLength" "I"] ++ wsX00)
def wsX0_best_r1 : List Cond := [Cond.fieldLink RX0 13 "PathOdds" "rowLength" "I", Cond.fieldLink RX0 38 "PathOdds" "bestTable" "[[D", Cond.methodLink RX0 79 yX0_fillBest, Cond.instanceMethod yX0_fillBest, Cond.selects RX0 yX0_fillBest yX0_fillBest, Cond.initialized RX0, Cond.code yX0_fillBest cX0_fillBest 4 none, Cond.fieldLink RX0 7 "PathOdds" "stateCount" "I", Cond.fieldLink RX0 20 "PathOdds" "startWeights" "[D", Cond.fieldLink RX0 43 "PathOdds" "fromTable" "[[I", Cond.fieldLink RX0 26 "PathOdds" "moveWeights" "[[D", Cond.methodLink RX0 113 yX0_weightShown, Cond.instanceMethod yX0_weightShown, Cond.selects RX0 yX0_weightShown yX0_weightShown, Cond.code yX0_weightShown cX0_weightShown 3 (some .double), Cond.fieldLink RX0 29 "PathOdds" "showWeights" "[[D", Cond.fieldLink RX0 16 "PathOdds" "row" "[I", Cond.methodLink RX0 119 yX0_lowestBestInto, Cond.instanceMethod yX0_lowestBestInto, Cond.selects RX0 yX0_lowestBestInto yX0_lowestBestInto, Cond.code yX0_lowestBestInto cX0_lowestBestInto 9 (some .int), Cond.methodLink RX0 82 yX0_lowestBestAtLast, Cond.instanceMethod yX0_lowestBestAtLast, Cond.selects RX0 yX0_lowestBestAtLast yX0_lowestBestAtLast]
def wsX0_best_r2 : List Cond := [Cond.code yX0_lowestBestAtLast cX0_lowestBestAtLast 3 (some .int)]
def wsX0_best : List Cond := .code yX0_best cX0_best 1 (some .double) :: ((wsX0_best_r1 ++ wsX0_best_r2) ++ wsX00)
def wsX0_bestState_r1 : List Cond := [Cond.fieldLink RX0 13 "PathOdds" "rowLength" "I", Cond.fieldLink RX0 43 "PathOdds" "fromTable" "[[I", Cond.methodLink RX0 86 yX0_isPlace, Cond.instanceMethod yX0_isPlace, Cond.selects RX0 yX0_isPlace yX0_isPlace, Cond.initialized RX0, Cond.code yX0_isPlace cX0_isPlace 2 (some .boolean), Cond.methodLink RX0 79 yX0_fillBest, Cond.instanceMethod yX0_fillBest, Cond.selects RX0 yX0_fillBest yX0_fillBest, Cond.code yX0_fillBest cX0_fillBest 4 none, Cond.fieldLink RX0 7 "PathOdds" "stateCount" "I", Cond.fieldLink RX0 38 "PathOdds" "bestTable" "[[D", Cond.fieldLink RX0 20 "PathOdds" "startWeights" "[D", Cond.fieldLink RX0 26 "PathOdds" "moveWeights" "[[D", Cond.methodLink RX0 113 yX0_weightShown, Cond.instanceMethod yX0_weightShown, Cond.selects RX0 yX0_weightShown yX0_weightShown, Cond.code yX0_weightShown cX0_weightShown 3 (some .double), Cond.fieldLink RX0 29 "PathOdds" "showWeights" "[[D", Cond.fieldLink RX0 16 "PathOdds" "row" "[I", Cond.methodLink RX0 119 yX0_lowestBestInto, Cond.instanceMethod yX0_lowestBestInto, Cond.selects RX0 yX0_lowestBestInto yX0_lowestBestInto]
def wsX0_bestState_r2 : List Cond := [Cond.code yX0_lowestBestInto cX0_lowestBestInto 9 (some .int), Cond.methodLink RX0 82 yX0_lowestBestAtLast, Cond.instanceMethod yX0_lowestBestAtLast, Cond.selects RX0 yX0_lowestBestAtLast yX0_lowestBestAtLast, Cond.code yX0_lowestBestAtLast cX0_lowestBestAtLast 3 (some .int)]
def wsX0_bestState : List Cond := .code yX0_bestState cX0_bestState 4 (some .int) :: ((wsX0_bestState_r1 ++ wsX0_bestState_r2) ++ wsX00)
def wsX0_share_r1 : List Cond := [Cond.classLink RX0 89 "java/lang/ArithmeticException", Cond.initialized "java/lang/ArithmeticException", Cond.fieldLink RX0 32 "PathOdds" "forwardTable" "[[D", Cond.fieldLink RX0 35 "PathOdds" "backwardTable" "[[D", Cond.methodLink RX0 65 yX0_refuseWrongPlace, Cond.instanceMethod yX0_refuseWrongPlace, Cond.selects RX0 yX0_refuseWrongPlace yX0_refuseWrongPlace, Cond.initialized RX0, Cond.code yX0_refuseWrongPlace cX0_refuseWrongPlace 3 none, Cond.classLink RX0 99 "java/lang/IndexOutOfBoundsException", Cond.initialized "java/lang/IndexOutOfBoundsException", Cond.classLink RX0 104 "java/lang/IllegalArgumentException", Cond.initialized "java/lang/IllegalArgumentException", Cond.methodLink RX0 86 yX0_isPlace, Cond.instanceMethod yX0_isPlace, Cond.selects RX0 yX0_isPlace yX0_isPlace, Cond.code yX0_isPlace cX0_isPlace 2 (some .boolean), Cond.fieldLink RX0 13 "PathOdds" "rowLength" "I", Cond.methodLink RX0 54 yX0_isState, Cond.instanceMethod yX0_isState, Cond.selects RX0 yX0_isState yX0_isState, Cond.code yX0_isState cX0_isState 2 (some .boolean), Cond.fieldLink RX0 7 "PathOdds" "stateCount" "I", Cond.methodLink RX0 69 yX0_fillForward]
def wsX0_share_r2 : List Cond := [Cond.instanceMethod yX0_fillForward, Cond.selects RX0 yX0_fillForward yX0_fillForward, Cond.code yX0_fillForward cX0_fillForward 5 none, Cond.fieldLink RX0 20 "PathOdds" "startWeights" "[D", Cond.methodLink RX0 109 yX0_sumInto, Cond.instanceMethod yX0_sumInto, Cond.selects RX0 yX0_sumInto yX0_sumInto, Cond.code yX0_sumInto cX0_sumInto 6 (some .double), Cond.fieldLink RX0 26 "PathOdds" "moveWeights" "[[D", Cond.methodLink RX0 113 yX0_weightShown, Cond.instanceMethod yX0_weightShown, Cond.selects RX0 yX0_weightShown yX0_weightShown, Cond.code yX0_weightShown cX0_weightShown 3 (some .double), Cond.fieldLink RX0 29 "PathOdds" "showWeights" "[[D", Cond.fieldLink RX0 16 "PathOdds" "row" "[I", Cond.methodLink RX0 75 yX0_sumAtLast, Cond.instanceMethod yX0_sumAtLast, Cond.selects RX0 yX0_sumAtLast yX0_sumAtLast, Cond.code yX0_sumAtLast cX0_sumAtLast 4 (some .double), Cond.methodLink RX0 72 yX0_fillBackward, Cond.instanceMethod yX0_fillBackward, Cond.selects RX0 yX0_fillBackward yX0_fillBackward, Cond.code yX0_fillBackward cX0_fillBackward 3 none, Cond.methodLink RX0 116 yX0_sumOutOf]
def wsX0_share_r3 : List Cond := [Cond.instanceMethod yX0_sumOutOf, Cond.selects RX0 yX0_sumOutOf yX0_sumOutOf, Cond.code yX0_sumOutOf cX0_sumOutOf 6 (some .double)]
def wsX0_share : List Cond := .code yX0_share cX0_share 5 (some .double) :: ((wsX0_share_r1 ++ (wsX0_share_r2 ++ wsX0_share_r3)) ++ wsX00 ++ (vx_atS RX0 93 "java/lang/ArithmeticException" ["java/lang/RuntimeException", "java/lang/Exception"]).filter goodWord ++ (vx_atS RX0 103 "java/lang/IndexOutOfBoundsException" ["java/lang/RuntimeException", "java/lang/Exception"]).filter goodWord ++ (vx_atS RX0 108 "java/lang/IllegalArgumentException" ["java/lang/RuntimeException", "java/lang/Exception"]).filter goodWord)
def wsX0_countInto : List Cond := .code yX0_countInto cX0_countInto 6 (some .long) :: ([.fieldLink RX0 20 "PathOdds" "startWeights" "[D", .fieldLink RX0 7 "PathOdds" "stateCount" "I", .fieldLink RX0 26 "PathOdds" "moveWeights" "[[D", .fieldLink RX0 48 "PathOdds" "countTable" "[[J"] ++ wsX00)
def wsX0_fillCounts : List Cond := .code yX0_fillCounts cX0_fillCounts 3 none :: ([.fieldLink RX0 13 "PathOdds" "rowLength" "I", .fieldLink RX0 7 "PathOdds" "stateCount" "I", .fieldLink RX0 48 "PathOdds" "countTable" "[[J", .methodLink RX0 113 yX0_weightShown, .instanceMethod yX0_weightShown, .selects RX0 yX0_weightShown yX0_weightShown, .initialized RX0, .code yX0_weightShown cX0_weightShown 3 (some .double), .fieldLink RX0 29 "PathOdds" "showWeights" "[[D", .fieldLink RX0 16 "PathOdds" "row" "[I", .methodLink RX0 123 yX0_countInto, .instanceMethod yX0_countInto, .selects RX0 yX0_countInto yX0_countInto, .code yX0_countInto cX0_countInto 6 (some .long), .fieldLink RX0 20 "PathOdds" "startWeights" "[D", .fieldLink RX0 26 "PathOdds" "moveWeights" "[[D"] ++ wsX00)
def wsX0_possible : List Cond := .code yX0_possible cX0_possible 4 (some .long) :: ([.fieldLink RX0 13 "PathOdds" "rowLength" "I", .fieldLink RX0 7 "PathOdds" "stateCount" "I", .fieldLink RX0 48 "PathOdds" "countTable" "[[J", .methodLink RX0 96 yX0_fillCounts, .instanceMethod yX0_fillCounts, .selects RX0 yX0_fillCounts yX0_fillCounts, .initialized RX0, .code yX0_fillCounts cX0_fillCounts 3 none, .methodLink RX0 113 yX0_weightShown, .instanceMethod yX0_weightShown, .selects RX0 yX0_weightShown yX0_weightShown, .code yX0_weightShown cX0_weightShown 3 (some .double), .fieldLink RX0 29 "PathOdds" "showWeights" "[[D", .fieldLink RX0 16 "PathOdds" "row" "[I", .methodLink RX0 123 yX0_countInto, .instanceMethod yX0_countInto, .selects RX0 yX0_countInto yX0_countInto, .code yX0_countInto cX0_countInto 6 (some .long), .fieldLink RX0 20 "PathOdds" "startWeights" "[D", .fieldLink RX0 26 "PathOdds" "moveWeights" "[[D"] ++ wsX00)
def wsX1_init : List Cond := .code yX1_init cX1_init 1 none :: ([.methodLink RX1 1 objectInit, .instanceMethod objectInit, .code objectInit ⟨#[0xb1]⟩ 1 none, .arrayClass .double, .fieldLink RX1 7 "PathOddsModel" "starts" "[D", .fieldLink RX1 13 "PathOddsModel" "moves" "[D", .fieldLink RX1 16 "PathOddsModel" "shows" "[D", .arrayClass .int, .fieldLink RX1 19 "PathOddsModel" "row" "[I", .fieldLink RX1 23 "PathOddsModel" "now" "[D", .fieldLink RX1 26 "PathOddsModel" "old" "[D", .arrayClass .long, .fieldLink RX1 29 "PathOddsModel" "counts" "[J", .fieldLink RX1 33 "PathOddsModel" "before" "[J", .fieldLink RX1 36 "PathOddsModel" "n" "I"] ++ wsX10)
def wsX1_thrown : List Cond := .code yX1_thrown cX1_thrown 1 (some .int) :: ([.fieldLink RX1 40 "PathOddsModel" "thrown" "I"] ++ wsX10)
def wsX1_unit : List Cond := .code yX1_unit cX1_unit 2 (some .boolean) :: ([])
def wsX1_state : List Cond := .code yX1_state cX1_state 2 (some .boolean) :: ([.fieldLink RX1 36 "PathOddsModel" "n" "I"] ++ wsX10)
def wsX1_symbol : List Cond := .code yX1_symbol cX1_symbol 1 (some .boolean) :: ([])
def wsX1_states : List Cond := .code yX1_states cX1_states 3 (some .boolean) :: ([.fieldLink RX1 40 "PathOddsModel" "thrown" "I", .fieldLink RX1 36 "PathOddsModel" "n" "I", .fieldLink RX1 43 "PathOddsModel" "length" "I", .fieldLink RX1 7 "PathOddsModel" "starts" "[D", .fieldLink RX1 13 "PathOddsModel" "moves" "[D", .fieldLink RX1 16 "PathOddsModel" "shows" "[D"] ++ wsX10)
def wsX1_size : List Cond := .code yX1_size cX1_size 1 (some .int) :: ([.fieldLink RX1 40 "PathOddsModel" "thrown" "I", .fieldLink RX1 36 "PathOddsModel" "n" "I"] ++ wsX10)
def wsX1_start : List Cond := .code yX1_start cX1_start 4 (some .boolean) :: ([.fieldLink RX1 40 "PathOddsModel" "thrown" "I", .fieldLink RX1 7 "PathOddsModel" "starts" "[D", .methodLink RX1 46 yX1_state, .instanceMethod yX1_state, .selects RX1 yX1_state yX1_state, .initialized RX1, .code yX1_state cX1_state 2 (some .boolean), .fieldLink RX1 36 "PathOddsModel" "n" "I", .methodLink RX1 50 yX1_unit, .static yX1_unit, .code yX1_unit cX1_unit 2 (some .boolean)] ++ wsX10)
def wsX1_move : List Cond := .code yX1_move cX1_move 5 (some .boolean) :: ([.fieldLink RX1 40 "PathOddsModel" "thrown" "I", .fieldLink RX1 13 "PathOddsModel" "moves" "[D", .methodLink RX1 46 yX1_state, .instanceMethod yX1_state, .selects RX1 yX1_state yX1_state, .initialized RX1, .code yX1_state cX1_state 2 (some .boolean), .fieldLink RX1 36 "PathOddsModel" "n" "I", .methodLink RX1 50 yX1_unit, .static yX1_unit, .code yX1_unit cX1_unit 2 (some .boolean)] ++ wsX10)
def wsX1_show : List Cond := .code yX1_show cX1_show 5 (some .boolean) :: ([.fieldLink RX1 40 "PathOddsModel" "thrown" "I", .fieldLink RX1 16 "PathOddsModel" "shows" "[D", .methodLink RX1 46 yX1_state, .instanceMethod yX1_state, .selects RX1 yX1_state yX1_state, .initialized RX1, .code yX1_state cX1_state 2 (some .boolean), .fieldLink RX1 36 "PathOddsModel" "n" "I", .methodLink RX1 54 yX1_symbol, .static yX1_symbol, .code yX1_symbol cX1_symbol 1 (some .boolean), .methodLink RX1 50 yX1_unit, .static yX1_unit, .code yX1_unit cX1_unit 2 (some .boolean)] ++ wsX10)
def wsX1_read : List Cond := .code yX1_read cX1_read 2 (some .boolean) :: ([.fieldLink RX1 40 "PathOddsModel" "thrown" "I", .fieldLink RX1 43 "PathOddsModel" "length" "I", .fieldLink RX1 19 "PathOddsModel" "row" "[I", .methodLink RX1 54 yX1_symbol, .static yX1_symbol, .initialized RX1, .code yX1_symbol cX1_symbol 1 (some .boolean)] ++ wsX10)
def wsX1_unread : List Cond := .code yX1_unread cX1_unread 1 (some .boolean) :: ([.fieldLink RX1 40 "PathOddsModel" "thrown" "I", .fieldLink RX1 43 "PathOddsModel" "length" "I"] ++ wsX10)
def wsX1_length : List Cond := .code yX1_length cX1_length 1 (some .int) :: ([.fieldLink RX1 40 "PathOddsModel" "thrown" "I", .fieldLink RX1 43 "PathOddsModel" "length" "I"] ++ wsX10)
def wsX1_shown : List Cond := .code yX1_shown cX1_shown 3 (some .double) :: ([.fieldLink RX1 16 "PathOddsModel" "shows" "[D", .fieldLink RX1 19 "PathOddsModel" "row" "[I"] ++ wsX10)
def wsX1_shift : List Cond := .code yX1_shift cX1_shift 2 none :: ([.fieldLink RX1 26 "PathOddsModel" "old" "[D", .fieldLink RX1 23 "PathOddsModel" "now" "[D"] ++ wsX10)
def wsX1_ahead : List Cond := .code yX1_ahead cX1_ahead 7 none :: ([.fieldLink RX1 36 "PathOddsModel" "n" "I", .fieldLink RX1 23 "PathOddsModel" "now" "[D", .fieldLink RX1 7 "PathOddsModel" "starts" "[D", .fieldLink RX1 26 "PathOddsModel" "old" "[D", .fieldLink RX1 13 "PathOddsModel" "moves" "[D", .methodLink RX1 57 yX1_shown, .instanceMethod yX1_shown, .selects RX1 yX1_shown yX1_shown, .initialized RX1, .code yX1_shown cX1_shown 3 (some .double), .fieldLink RX1 16 "PathOddsModel" "shows" "[D", .fieldLink RX1 19 "PathOddsModel" "row" "[I", .methodLink RX1 61 yX1_shift, .instanceMethod yX1_shift, .selects RX1 yX1_shift yX1_shift, .code yX1_shift cX1_shift 2 none] ++ wsX10)
def wsX1_behind : List Cond := .code yX1_behind cX1_behind 7 none :: ([.fieldLink RX1 36 "PathOddsModel" "n" "I", .fieldLink RX1 23 "PathOddsModel" "now" "[D", .fieldLink RX1 43 "PathOddsModel" "length" "I", .fieldLink RX1 13 "PathOddsModel" "moves" "[D", .fieldLink RX1 26 "PathOddsModel" "old" "[D", .methodLink RX1 61 yX1_shift, .instanceMethod yX1_shift, .selects RX1 yX1_shift yX1_shift, .initialized RX1, .code yX1_shift cX1_shift 2 none, .methodLink RX1 57 yX1_shown, .instanceMethod yX1_shown, .selects RX1 yX1_shown yX1_shown, .code yX1_shown cX1_shown 3 (some .double), .fieldLink RX1 16 "PathOddsModel" "shows" "[D", .fieldLink RX1 19 "PathOddsModel" "row" "[I"] ++ wsX10)
def wsX1_from : List Cond := .code yX1_from cX1_from 4 (some .int) :: ([.fieldLink RX1 36 "PathOddsModel" "n" "I", .fieldLink RX1 26 "PathOddsModel" "old" "[D", .fieldLink RX1 13 "PathOddsModel" "moves" "[D"] ++ wsX10)
def wsX1_greatest : List Cond := .code yX1_greatest cX1_greatest 4 none :: ([.fieldLink RX1 36 "PathOddsModel" "n" "I", .fieldLink RX1 23 "PathOddsModel" "now" "[D", .fieldLink RX1 7 "PathOddsModel" "starts" "[D", .fieldLink RX1 26 "PathOddsModel" "old" "[D", .fieldLink RX1 13 "PathOddsModel" "moves" "[D", .methodLink RX1 57 yX1_shown, .instanceMethod yX1_shown, .selects RX1 yX1_shown yX1_shown, .initialized RX1, .code yX1_shown cX1_shown 3 (some .double), .fieldLink RX1 16 "PathOddsModel" "shows" "[D", .fieldLink RX1 19 "PathOddsModel" "row" "[I", .methodLink RX1 61 yX1_shift, .instanceMethod yX1_shift, .selects RX1 yX1_shift yX1_shift, .code yX1_shift cX1_shift 2 none, .methodLink RX1 64 yX1_from, .instanceMethod yX1_from, .selects RX1 yX1_from yX1_from, .code yX1_from cX1_from 4 (some .int)] ++ wsX10)
def wsX1_fault : List Cond := .code yX1_fault cX1_fault 3 (some .int) :: ([.fieldLink RX1 43 "PathOddsModel" "length" "I", .methodLink RX1 46 yX1_state, .instanceMethod yX1_state, .selects RX1 yX1_state yX1_state, .initialized RX1, .code yX1_state cX1_state 2 (some .boolean), .fieldLink RX1 36 "PathOddsModel" "n" "I"] ++ wsX10)
def wsX1_forward_r1 : List Cond := [Cond.fieldLink RX1 40 "PathOddsModel" "thrown" "I", Cond.fieldLink RX1 23 "PathOddsModel" "now" "[D", Cond.methodLink RX1 68 yX1_fault, Cond.instanceMethod yX1_fault, Cond.selects RX1 yX1_fault yX1_fault, Cond.initialized RX1, Cond.code yX1_fault cX1_fault 3 (some .int), Cond.fieldLink RX1 43 "PathOddsModel" "length" "I", Cond.methodLink RX1 46 yX1_state, Cond.instanceMethod yX1_state, Cond.selects RX1 yX1_state yX1_state, Cond.code yX1_state cX1_state 2 (some .boolean), Cond.fieldLink RX1 36 "PathOddsModel" "n" "I", Cond.methodLink RX1 72 yX1_ahead, Cond.instanceMethod yX1_ahead, Cond.selects RX1 yX1_ahead yX1_ahead, Cond.code yX1_ahead cX1_ahead 7 none, Cond.fieldLink RX1 7 "PathOddsModel" "starts" "[D", Cond.fieldLink RX1 26 "PathOddsModel" "old" "[D", Cond.fieldLink RX1 13 "PathOddsModel" "moves" "[D", Cond.methodLink RX1 57 yX1_shown, Cond.instanceMethod yX1_shown, Cond.selects RX1 yX1_shown yX1_shown, Cond.code yX1_shown cX1_shown 3 (some .double)]
def wsX1_forward_r2 : List Cond := [Cond.fieldLink RX1 16 "PathOddsModel" "shows" "[D", Cond.fieldLink RX1 19 "PathOddsModel" "row" "[I", Cond.methodLink RX1 61 yX1_shift, Cond.instanceMethod yX1_shift, Cond.selects RX1 yX1_shift yX1_shift, Cond.code yX1_shift cX1_shift 2 none]
def wsX1_forward : List Cond := .code yX1_forward cX1_forward 3 (some .double) :: ((wsX1_forward_r1 ++ wsX1_forward_r2) ++ wsX10)
def wsX1_backward_r1 : List Cond := [Cond.fieldLink RX1 40 "PathOddsModel" "thrown" "I", Cond.fieldLink RX1 23 "PathOddsModel" "now" "[D", Cond.methodLink RX1 68 yX1_fault, Cond.instanceMethod yX1_fault, Cond.selects RX1 yX1_fault yX1_fault, Cond.initialized RX1, Cond.code yX1_fault cX1_fault 3 (some .int), Cond.fieldLink RX1 43 "PathOddsModel" "length" "I", Cond.methodLink RX1 46 yX1_state, Cond.instanceMethod yX1_state, Cond.selects RX1 yX1_state yX1_state, Cond.code yX1_state cX1_state 2 (some .boolean), Cond.fieldLink RX1 36 "PathOddsModel" "n" "I", Cond.methodLink RX1 76 yX1_behind, Cond.instanceMethod yX1_behind, Cond.selects RX1 yX1_behind yX1_behind, Cond.code yX1_behind cX1_behind 7 none, Cond.fieldLink RX1 13 "PathOddsModel" "moves" "[D", Cond.fieldLink RX1 26 "PathOddsModel" "old" "[D", Cond.methodLink RX1 61 yX1_shift, Cond.instanceMethod yX1_shift, Cond.selects RX1 yX1_shift yX1_shift, Cond.code yX1_shift cX1_shift 2 none, Cond.methodLink RX1 57 yX1_shown]
def wsX1_backward_r2 : List Cond := [Cond.instanceMethod yX1_shown, Cond.selects RX1 yX1_shown yX1_shown, Cond.code yX1_shown cX1_shown 3 (some .double), Cond.fieldLink RX1 16 "PathOddsModel" "shows" "[D", Cond.fieldLink RX1 19 "PathOddsModel" "row" "[I"]
def wsX1_backward : List Cond := .code yX1_backward cX1_backward 3 (some .double) :: ((wsX1_backward_r1 ++ wsX1_backward_r2) ++ wsX10)
def wsX1_all : List Cond := .code yX1_all cX1_all 4 (some .double) :: ([.fieldLink RX1 43 "PathOddsModel" "length" "I", .fieldLink RX1 36 "PathOddsModel" "n" "I", .fieldLink RX1 23 "PathOddsModel" "now" "[D", .methodLink RX1 72 yX1_ahead, .instanceMethod yX1_ahead, .selects RX1 yX1_ahead yX1_ahead, .initialized RX1, .code yX1_ahead cX1_ahead 7 none, .fieldLink RX1 7 "PathOddsModel" "starts" "[D", .fieldLink RX1 26 "PathOddsModel" "old" "[D", .fieldLink RX1 13 "PathOddsModel" "moves" "[D", .methodLink RX1 57 yX1_shown, .instanceMethod yX1_shown, .selects RX1 yX1_shown yX1_shown, .code yX1_shown cX1_shown 3 (some .double), .fieldLink RX1 16 "PathOddsModel" "shows" "[D", .fieldLink RX1 19 "PathOddsModel" "row" "[I", .methodLink RX1 61 yX1_shift, .instanceMethod yX1_shift, .selects RX1 yX1_shift yX1_shift, .code yX1_shift cX1_shift 2 none] ++ wsX10)
def wsX1_total_r1 : List Cond := [Cond.fieldLink RX1 40 "PathOddsModel" "thrown" "I", Cond.methodLink RX1 79 yX1_all, Cond.instanceMethod yX1_all, Cond.selects RX1 yX1_all yX1_all, Cond.initialized RX1, Cond.code yX1_all cX1_all 4 (some .double), Cond.fieldLink RX1 43 "PathOddsModel" "length" "I", Cond.fieldLink RX1 36 "PathOddsModel" "n" "I", Cond.fieldLink RX1 23 "PathOddsModel" "now" "[D", Cond.methodLink RX1 72 yX1_ahead, Cond.instanceMethod yX1_ahead, Cond.selects RX1 yX1_ahead yX1_ahead, Cond.code yX1_ahead cX1_ahead 7 none, Cond.fieldLink RX1 7 "PathOddsModel" "starts" "[D", Cond.fieldLink RX1 26 "PathOddsModel" "old" "[D", Cond.fieldLink RX1 13 "PathOddsModel" "moves" "[D", Cond.methodLink RX1 57 yX1_shown, Cond.instanceMethod yX1_shown, Cond.selects RX1 yX1_shown yX1_shown, Cond.code yX1_shown cX1_shown 3 (some .double), Cond.fieldLink RX1 16 "PathOddsModel" "shows" "[D", Cond.fieldLink RX1 19 "PathOddsModel" "row" "[I", Cond.methodLink RX1 61 yX1_shift, Cond.instanceMethod yX1_shift]
def wsX1_total_r2 : List Cond := [Cond.selects RX1 yX1_shift yX1_shift, Cond.code yX1_shift cX1_shift 2 none]
def wsX1_total : List Cond := .code yX1_total cX1_total 1 (some .double) :: ((wsX1_total_r1 ++ wsX1_total_r2) ++ wsX10)
def wsX1_last : List Cond := .code yX1_last cX1_last 3 (some .int) :: ([.fieldLink RX1 36 "PathOddsModel" "n" "I", .fieldLink RX1 23 "PathOddsModel" "now" "[D"] ++ wsX10)
def wsX1_best_r1 : List Cond := [Cond.fieldLink RX1 40 "PathOddsModel" "thrown" "I", Cond.fieldLink RX1 43 "PathOddsModel" "length" "I", Cond.fieldLink RX1 23 "PathOddsModel" "now" "[D", Cond.methodLink RX1 83 yX1_greatest, Cond.instanceMethod yX1_greatest, Cond.selects RX1 yX1_greatest yX1_greatest, Cond.initialized RX1, Cond.code yX1_greatest cX1_greatest 4 none, Cond.fieldLink RX1 36 "PathOddsModel" "n" "I", Cond.fieldLink RX1 7 "PathOddsModel" "starts" "[D", Cond.fieldLink RX1 26 "PathOddsModel" "old" "[D", Cond.fieldLink RX1 13 "PathOddsModel" "moves" "[D", Cond.methodLink RX1 57 yX1_shown, Cond.instanceMethod yX1_shown, Cond.selects RX1 yX1_shown yX1_shown, Cond.code yX1_shown cX1_shown 3 (some .double), Cond.fieldLink RX1 16 "PathOddsModel" "shows" "[D", Cond.fieldLink RX1 19 "PathOddsModel" "row" "[I", Cond.methodLink RX1 61 yX1_shift, Cond.instanceMethod yX1_shift, Cond.selects RX1 yX1_shift yX1_shift, Cond.code yX1_shift cX1_shift 2 none, Cond.methodLink RX1 64 yX1_from, Cond.instanceMethod yX1_from]
def wsX1_best_r2 : List Cond := [Cond.selects RX1 yX1_from yX1_from, Cond.code yX1_from cX1_from 4 (some .int), Cond.methodLink RX1 86 yX1_last, Cond.instanceMethod yX1_last, Cond.selects RX1 yX1_last yX1_last, Cond.code yX1_last cX1_last 3 (some .int)]
def wsX1_best : List Cond := .code yX1_best cX1_best 1 (some .double) :: ((wsX1_best_r1 ++ wsX1_best_r2) ++ wsX10)
def wsX1_bestState_r1 : List Cond := [Cond.fieldLink RX1 40 "PathOddsModel" "thrown" "I", Cond.fieldLink RX1 43 "PathOddsModel" "length" "I", Cond.methodLink RX1 83 yX1_greatest, Cond.instanceMethod yX1_greatest, Cond.selects RX1 yX1_greatest yX1_greatest, Cond.initialized RX1, Cond.code yX1_greatest cX1_greatest 4 none, Cond.fieldLink RX1 36 "PathOddsModel" "n" "I", Cond.fieldLink RX1 23 "PathOddsModel" "now" "[D", Cond.fieldLink RX1 7 "PathOddsModel" "starts" "[D", Cond.fieldLink RX1 26 "PathOddsModel" "old" "[D", Cond.fieldLink RX1 13 "PathOddsModel" "moves" "[D", Cond.methodLink RX1 57 yX1_shown, Cond.instanceMethod yX1_shown, Cond.selects RX1 yX1_shown yX1_shown, Cond.code yX1_shown cX1_shown 3 (some .double), Cond.fieldLink RX1 16 "PathOddsModel" "shows" "[D", Cond.fieldLink RX1 19 "PathOddsModel" "row" "[I", Cond.methodLink RX1 61 yX1_shift, Cond.instanceMethod yX1_shift, Cond.selects RX1 yX1_shift yX1_shift, Cond.code yX1_shift cX1_shift 2 none, Cond.methodLink RX1 64 yX1_from, Cond.instanceMethod yX1_from]
def wsX1_bestState_r2 : List Cond := [Cond.selects RX1 yX1_from yX1_from, Cond.code yX1_from cX1_from 4 (some .int), Cond.methodLink RX1 86 yX1_last, Cond.instanceMethod yX1_last, Cond.selects RX1 yX1_last yX1_last, Cond.code yX1_last cX1_last 3 (some .int)]
def wsX1_bestState : List Cond := .code yX1_bestState cX1_bestState 4 (some .int) :: ((wsX1_bestState_r1 ++ wsX1_bestState_r2) ++ wsX10)
def wsX1_share_r1 : List Cond := [Cond.fieldLink RX1 40 "PathOddsModel" "thrown" "I", Cond.fieldLink RX1 23 "PathOddsModel" "now" "[D", Cond.methodLink RX1 68 yX1_fault, Cond.instanceMethod yX1_fault, Cond.selects RX1 yX1_fault yX1_fault, Cond.initialized RX1, Cond.code yX1_fault cX1_fault 3 (some .int), Cond.fieldLink RX1 43 "PathOddsModel" "length" "I", Cond.methodLink RX1 46 yX1_state, Cond.instanceMethod yX1_state, Cond.selects RX1 yX1_state yX1_state, Cond.code yX1_state cX1_state 2 (some .boolean), Cond.fieldLink RX1 36 "PathOddsModel" "n" "I", Cond.methodLink RX1 79 yX1_all, Cond.instanceMethod yX1_all, Cond.selects RX1 yX1_all yX1_all, Cond.code yX1_all cX1_all 4 (some .double), Cond.methodLink RX1 72 yX1_ahead, Cond.instanceMethod yX1_ahead, Cond.selects RX1 yX1_ahead yX1_ahead, Cond.code yX1_ahead cX1_ahead 7 none, Cond.fieldLink RX1 7 "PathOddsModel" "starts" "[D", Cond.fieldLink RX1 26 "PathOddsModel" "old" "[D", Cond.fieldLink RX1 13 "PathOddsModel" "moves" "[D"]
def wsX1_share_r2 : List Cond := [Cond.methodLink RX1 57 yX1_shown, Cond.instanceMethod yX1_shown, Cond.selects RX1 yX1_shown yX1_shown, Cond.code yX1_shown cX1_shown 3 (some .double), Cond.fieldLink RX1 16 "PathOddsModel" "shows" "[D", Cond.fieldLink RX1 19 "PathOddsModel" "row" "[I", Cond.methodLink RX1 61 yX1_shift, Cond.instanceMethod yX1_shift, Cond.selects RX1 yX1_shift yX1_shift, Cond.code yX1_shift cX1_shift 2 none, Cond.methodLink RX1 76 yX1_behind, Cond.instanceMethod yX1_behind, Cond.selects RX1 yX1_behind yX1_behind, Cond.code yX1_behind cX1_behind 7 none]
def wsX1_share : List Cond := .code yX1_share cX1_share 7 (some .double) :: ((wsX1_share_r1 ++ wsX1_share_r2) ++ wsX10)
def wsX1_possible : List Cond := .code yX1_possible cX1_possible 4 (some .long) :: ([.fieldLink RX1 40 "PathOddsModel" "thrown" "I", .fieldLink RX1 43 "PathOddsModel" "length" "I", .fieldLink RX1 29 "PathOddsModel" "counts" "[J", .fieldLink RX1 36 "PathOddsModel" "n" "I", .fieldLink RX1 7 "PathOddsModel" "starts" "[D", .fieldLink RX1 33 "PathOddsModel" "before" "[J", .fieldLink RX1 13 "PathOddsModel" "moves" "[D", .methodLink RX1 57 yX1_shown, .instanceMethod yX1_shown, .selects RX1 yX1_shown yX1_shown, .initialized RX1, .code yX1_shown cX1_shown 3 (some .double), .fieldLink RX1 16 "PathOddsModel" "shows" "[D", .fieldLink RX1 19 "PathOddsModel" "row" "[I"] ++ wsX10)
def wsL_forward_r1 : List Cond := [Cond.classLink RL 13 "java/lang/IndexOutOfBoundsException", Cond.classLink RL 15 "java/lang/IllegalArgumentException", Cond.methodLink RL 7 yX0_forward, Cond.instanceMethod yX0_forward, Cond.selects RX0 yX0_forward yX0_forward, Cond.initialized RX0, Cond.code yX0_forward cX0_forward 3 (some .double), Cond.fieldLink RX0 32 "PathOdds" "forwardTable" "[[D", Cond.methodLink RX0 65 yX0_refuseWrongPlace, Cond.instanceMethod yX0_refuseWrongPlace, Cond.selects RX0 yX0_refuseWrongPlace yX0_refuseWrongPlace, Cond.code yX0_refuseWrongPlace cX0_refuseWrongPlace 3 none, Cond.classLink RX0 99 "java/lang/IndexOutOfBoundsException", Cond.initialized "java/lang/IndexOutOfBoundsException", Cond.classLink RX0 104 "java/lang/IllegalArgumentException", Cond.initialized "java/lang/IllegalArgumentException", Cond.methodLink RX0 86 yX0_isPlace, Cond.instanceMethod yX0_isPlace, Cond.selects RX0 yX0_isPlace yX0_isPlace, Cond.code yX0_isPlace cX0_isPlace 2 (some .boolean), Cond.fieldLink RX0 13 "PathOdds" "rowLength" "I", Cond.methodLink RX0 54 yX0_isState, Cond.instanceMethod yX0_isState, Cond.selects RX0 yX0_isState yX0_isState]
def wsL_forward_r2 : List Cond := [Cond.code yX0_isState cX0_isState 2 (some .boolean), Cond.fieldLink RX0 7 "PathOdds" "stateCount" "I", Cond.methodLink RX0 69 yX0_fillForward, Cond.instanceMethod yX0_fillForward, Cond.selects RX0 yX0_fillForward yX0_fillForward, Cond.code yX0_fillForward cX0_fillForward 5 none, Cond.fieldLink RX0 20 "PathOdds" "startWeights" "[D", Cond.methodLink RX0 109 yX0_sumInto, Cond.instanceMethod yX0_sumInto, Cond.selects RX0 yX0_sumInto yX0_sumInto, Cond.code yX0_sumInto cX0_sumInto 6 (some .double), Cond.fieldLink RX0 26 "PathOdds" "moveWeights" "[[D", Cond.methodLink RX0 113 yX0_weightShown, Cond.instanceMethod yX0_weightShown, Cond.selects RX0 yX0_weightShown yX0_weightShown, Cond.code yX0_weightShown cX0_weightShown 3 (some .double), Cond.fieldLink RX0 29 "PathOdds" "showWeights" "[[D", Cond.fieldLink RX0 16 "PathOdds" "row" "[I"]
def wsL_forward : List Cond := .codeWith yL_forward cL_forward 5 (some .int) [(0, 9, 12, 13), (0, 9, 16, 15)] :: ((wsL_forward_r1 ++ wsL_forward_r2) ++ wsX00 ++ (vx_atS RX0 103 "java/lang/IndexOutOfBoundsException" ["java/lang/RuntimeException", "java/lang/Exception"]).filter goodWord ++ (vx_atS RX0 108 "java/lang/IllegalArgumentException" ["java/lang/RuntimeException", "java/lang/Exception"]).filter goodWord)
def wsL_backward_r1 : List Cond := [Cond.classLink RL 13 "java/lang/IndexOutOfBoundsException", Cond.classLink RL 15 "java/lang/IllegalArgumentException", Cond.methodLink RL 17 yX0_backward, Cond.instanceMethod yX0_backward, Cond.selects RX0 yX0_backward yX0_backward, Cond.initialized RX0, Cond.code yX0_backward cX0_backward 3 (some .double), Cond.fieldLink RX0 35 "PathOdds" "backwardTable" "[[D", Cond.methodLink RX0 65 yX0_refuseWrongPlace, Cond.instanceMethod yX0_refuseWrongPlace, Cond.selects RX0 yX0_refuseWrongPlace yX0_refuseWrongPlace, Cond.code yX0_refuseWrongPlace cX0_refuseWrongPlace 3 none, Cond.classLink RX0 99 "java/lang/IndexOutOfBoundsException", Cond.initialized "java/lang/IndexOutOfBoundsException", Cond.classLink RX0 104 "java/lang/IllegalArgumentException", Cond.initialized "java/lang/IllegalArgumentException", Cond.methodLink RX0 86 yX0_isPlace, Cond.instanceMethod yX0_isPlace, Cond.selects RX0 yX0_isPlace yX0_isPlace, Cond.code yX0_isPlace cX0_isPlace 2 (some .boolean), Cond.fieldLink RX0 13 "PathOdds" "rowLength" "I", Cond.methodLink RX0 54 yX0_isState, Cond.instanceMethod yX0_isState, Cond.selects RX0 yX0_isState yX0_isState]
def wsL_backward_r2 : List Cond := [Cond.code yX0_isState cX0_isState 2 (some .boolean), Cond.fieldLink RX0 7 "PathOdds" "stateCount" "I", Cond.methodLink RX0 72 yX0_fillBackward, Cond.instanceMethod yX0_fillBackward, Cond.selects RX0 yX0_fillBackward yX0_fillBackward, Cond.code yX0_fillBackward cX0_fillBackward 3 none, Cond.methodLink RX0 116 yX0_sumOutOf, Cond.instanceMethod yX0_sumOutOf, Cond.selects RX0 yX0_sumOutOf yX0_sumOutOf, Cond.code yX0_sumOutOf cX0_sumOutOf 6 (some .double), Cond.fieldLink RX0 26 "PathOdds" "moveWeights" "[[D", Cond.methodLink RX0 113 yX0_weightShown, Cond.instanceMethod yX0_weightShown, Cond.selects RX0 yX0_weightShown yX0_weightShown, Cond.code yX0_weightShown cX0_weightShown 3 (some .double), Cond.fieldLink RX0 29 "PathOdds" "showWeights" "[[D", Cond.fieldLink RX0 16 "PathOdds" "row" "[I"]
def wsL_backward : List Cond := .codeWith yL_backward cL_backward 5 (some .int) [(0, 9, 12, 13), (0, 9, 16, 15)] :: ((wsL_backward_r1 ++ wsL_backward_r2) ++ wsX00 ++ (vx_atS RX0 103 "java/lang/IndexOutOfBoundsException" ["java/lang/RuntimeException", "java/lang/Exception"]).filter goodWord ++ (vx_atS RX0 108 "java/lang/IllegalArgumentException" ["java/lang/RuntimeException", "java/lang/Exception"]).filter goodWord)
def wsL_share_r1 : List Cond := [Cond.classLink RL 13 "java/lang/IndexOutOfBoundsException", Cond.classLink RL 15 "java/lang/IllegalArgumentException", Cond.classLink RL 23 "java/lang/ArithmeticException", Cond.methodLink RL 20 yX0_share, Cond.instanceMethod yX0_share, Cond.selects RX0 yX0_share yX0_share, Cond.initialized RX0, Cond.code yX0_share cX0_share 5 (some .double), Cond.classLink RX0 89 "java/lang/ArithmeticException", Cond.initialized "java/lang/ArithmeticException", Cond.fieldLink RX0 32 "PathOdds" "forwardTable" "[[D", Cond.fieldLink RX0 35 "PathOdds" "backwardTable" "[[D", Cond.methodLink RX0 65 yX0_refuseWrongPlace, Cond.instanceMethod yX0_refuseWrongPlace, Cond.selects RX0 yX0_refuseWrongPlace yX0_refuseWrongPlace, Cond.code yX0_refuseWrongPlace cX0_refuseWrongPlace 3 none, Cond.classLink RX0 99 "java/lang/IndexOutOfBoundsException", Cond.initialized "java/lang/IndexOutOfBoundsException", Cond.classLink RX0 104 "java/lang/IllegalArgumentException", Cond.initialized "java/lang/IllegalArgumentException", Cond.methodLink RX0 86 yX0_isPlace, Cond.instanceMethod yX0_isPlace, Cond.selects RX0 yX0_isPlace yX0_isPlace, Cond.code yX0_isPlace cX0_isPlace 2 (some .boolean)]
def wsL_share_r2 : List Cond := [Cond.fieldLink RX0 13 "PathOdds" "rowLength" "I", Cond.methodLink RX0 54 yX0_isState, Cond.instanceMethod yX0_isState, Cond.selects RX0 yX0_isState yX0_isState, Cond.code yX0_isState cX0_isState 2 (some .boolean), Cond.fieldLink RX0 7 "PathOdds" "stateCount" "I", Cond.methodLink RX0 69 yX0_fillForward, Cond.instanceMethod yX0_fillForward, Cond.selects RX0 yX0_fillForward yX0_fillForward, Cond.code yX0_fillForward cX0_fillForward 5 none, Cond.fieldLink RX0 20 "PathOdds" "startWeights" "[D", Cond.methodLink RX0 109 yX0_sumInto, Cond.instanceMethod yX0_sumInto, Cond.selects RX0 yX0_sumInto yX0_sumInto, Cond.code yX0_sumInto cX0_sumInto 6 (some .double), Cond.fieldLink RX0 26 "PathOdds" "moveWeights" "[[D", Cond.methodLink RX0 113 yX0_weightShown, Cond.instanceMethod yX0_weightShown, Cond.selects RX0 yX0_weightShown yX0_weightShown, Cond.code yX0_weightShown cX0_weightShown 3 (some .double), Cond.fieldLink RX0 29 "PathOdds" "showWeights" "[[D", Cond.fieldLink RX0 16 "PathOdds" "row" "[I", Cond.methodLink RX0 75 yX0_sumAtLast, Cond.instanceMethod yX0_sumAtLast]
def wsL_share_r3 : List Cond := [Cond.selects RX0 yX0_sumAtLast yX0_sumAtLast, Cond.code yX0_sumAtLast cX0_sumAtLast 4 (some .double), Cond.methodLink RX0 72 yX0_fillBackward, Cond.instanceMethod yX0_fillBackward, Cond.selects RX0 yX0_fillBackward yX0_fillBackward, Cond.code yX0_fillBackward cX0_fillBackward 3 none, Cond.methodLink RX0 116 yX0_sumOutOf, Cond.instanceMethod yX0_sumOutOf, Cond.selects RX0 yX0_sumOutOf yX0_sumOutOf, Cond.code yX0_sumOutOf cX0_sumOutOf 6 (some .double)]
def wsL_share : List Cond := .codeWith yL_share cL_share 5 (some .int) [(0, 9, 12, 13), (0, 9, 16, 15), (0, 9, 20, 23)] :: ((wsL_share_r1 ++ (wsL_share_r2 ++ wsL_share_r3)) ++ wsX00 ++ (vx_atS RX0 93 "java/lang/ArithmeticException" ["java/lang/RuntimeException", "java/lang/Exception"]).filter goodWord ++ (vx_atS RX0 103 "java/lang/IndexOutOfBoundsException" ["java/lang/RuntimeException", "java/lang/Exception"]).filter goodWord ++ (vx_atS RX0 108 "java/lang/IllegalArgumentException" ["java/lang/RuntimeException", "java/lang/Exception"]).filter goodWord)
def wsL_law0_r1 : List Cond := [Cond.classLink RL 8 RX0, Cond.instantiable RX0 11, Cond.initialized RX0, Cond.classLink RL 26 RX1, Cond.instantiable RX1 11, Cond.initialized RX1, Cond.arrayClass .double, Cond.constantDouble RL 39 (4593671619917905920), Cond.methodLink RL 25 yX0_init, Cond.instanceMethod yX0_init, Cond.code yX0_init cX0_init 1 none, Cond.methodLink RX0 1 objectInit, Cond.instanceMethod objectInit, Cond.code objectInit ⟨#[0xb1]⟩ 1 none, Cond.fieldLink RX0 7 "PathOdds" "stateCount" "I", Cond.fieldLink RX0 13 "PathOdds" "rowLength" "I", Cond.arrayClass .int, Cond.fieldLink RX0 16 "PathOdds" "row" "[I", Cond.fieldLink RX0 20 "PathOdds" "startWeights" "[D", Cond.classLink RX0 24 "[[D", Cond.fieldLink RX0 26 "PathOdds" "moveWeights" "[[D", Cond.fieldLink RX0 29 "PathOdds" "showWeights" "[[D", Cond.fieldLink RX0 32 "PathOdds" "forwardTable" "[[D", Cond.fieldLink RX0 35 "PathOdds" "backwardTable" "[[D"]
def wsL_law0_r2 : List Cond := [Cond.fieldLink RX0 38 "PathOdds" "bestTable" "[[D", Cond.classLink RX0 41 "[[I", Cond.fieldLink RX0 43 "PathOdds" "fromTable" "[[I", Cond.classLink RX0 46 "[[J", Cond.arrayClass .long, Cond.fieldLink RX0 48 "PathOdds" "countTable" "[[J", Cond.methodLink RL 28 yX1_init, Cond.instanceMethod yX1_init, Cond.code yX1_init cX1_init 1 none, Cond.methodLink RX1 1 objectInit, Cond.fieldLink RX1 7 "PathOddsModel" "starts" "[D", Cond.fieldLink RX1 13 "PathOddsModel" "moves" "[D", Cond.fieldLink RX1 16 "PathOddsModel" "shows" "[D", Cond.fieldLink RX1 19 "PathOddsModel" "row" "[I", Cond.fieldLink RX1 23 "PathOddsModel" "now" "[D", Cond.fieldLink RX1 26 "PathOddsModel" "old" "[D", Cond.fieldLink RX1 29 "PathOddsModel" "counts" "[J", Cond.fieldLink RX1 33 "PathOddsModel" "before" "[J", Cond.fieldLink RX1 36 "PathOddsModel" "n" "I", Cond.methodLink RL 29 yX0_states, Cond.instanceMethod yX0_states, Cond.selects RX0 yX0_states yX0_states, Cond.code yX0_states cX0_states 2 (some .boolean), Cond.methodLink RX0 51 yX0_clearWeights]
def wsL_law0_r3 : List Cond := [Cond.instanceMethod yX0_clearWeights, Cond.selects RX0 yX0_clearWeights yX0_clearWeights, Cond.code yX0_clearWeights cX0_clearWeights 3 none, Cond.methodLink RL 33 yX1_states, Cond.instanceMethod yX1_states, Cond.selects RX1 yX1_states yX1_states, Cond.code yX1_states cX1_states 3 (some .boolean), Cond.fieldLink RX1 40 "PathOddsModel" "thrown" "I", Cond.fieldLink RX1 43 "PathOddsModel" "length" "I", Cond.methodLink RL 34 yX0_size, Cond.instanceMethod yX0_size, Cond.selects RX0 yX0_size yX0_size, Cond.code yX0_size cX0_size 1 (some .int), Cond.methodLink RL 38 yX1_size, Cond.instanceMethod yX1_size, Cond.selects RX1 yX1_size yX1_size, Cond.code yX1_size cX1_size 1 (some .int), Cond.methodLink RL 41 yX0_start, Cond.instanceMethod yX0_start, Cond.selects RX0 yX0_start yX0_start, Cond.code yX0_start cX0_start 4 (some .boolean), Cond.methodLink RX0 54 yX0_isState, Cond.instanceMethod yX0_isState, Cond.selects RX0 yX0_isState yX0_isState]
def wsL_law0_r4 : List Cond := [Cond.code yX0_isState cX0_isState 2 (some .boolean), Cond.methodLink RX0 58 yX0_isWeight, Cond.static yX0_isWeight, Cond.code yX0_isWeight cX0_isWeight 2 (some .boolean), Cond.methodLink RL 45 yX1_start, Cond.instanceMethod yX1_start, Cond.selects RX1 yX1_start yX1_start, Cond.code yX1_start cX1_start 4 (some .boolean), Cond.methodLink RX1 46 yX1_state, Cond.instanceMethod yX1_state, Cond.selects RX1 yX1_state yX1_state, Cond.code yX1_state cX1_state 2 (some .boolean), Cond.methodLink RX1 50 yX1_unit, Cond.static yX1_unit, Cond.code yX1_unit cX1_unit 2 (some .boolean), Cond.methodLink RL 46 yX0_move, Cond.instanceMethod yX0_move, Cond.selects RX0 yX0_move yX0_move, Cond.code yX0_move cX0_move 5 (some .boolean), Cond.methodLink RL 50 yX1_move, Cond.instanceMethod yX1_move, Cond.selects RX1 yX1_move yX1_move, Cond.code yX1_move cX1_move 5 (some .boolean), Cond.methodLink RL 51 yX0_show]
def wsL_law0_r5 : List Cond := [Cond.instanceMethod yX0_show, Cond.selects RX0 yX0_show yX0_show, Cond.code yX0_show cX0_show 5 (some .boolean), Cond.methodLink RX0 62 yX0_isSymbol, Cond.static yX0_isSymbol, Cond.code yX0_isSymbol cX0_isSymbol 1 (some .boolean), Cond.methodLink RL 54 yX1_show, Cond.instanceMethod yX1_show, Cond.selects RX1 yX1_show yX1_show, Cond.code yX1_show cX1_show 5 (some .boolean), Cond.methodLink RX1 54 yX1_symbol, Cond.static yX1_symbol, Cond.code yX1_symbol cX1_symbol 1 (some .boolean), Cond.methodLink RL 55 yX0_read, Cond.instanceMethod yX0_read, Cond.selects RX0 yX0_read yX0_read, Cond.code yX0_read cX0_read 2 (some .boolean), Cond.methodLink RL 58 yX1_read, Cond.instanceMethod yX1_read, Cond.selects RX1 yX1_read yX1_read, Cond.code yX1_read cX1_read 2 (some .boolean), Cond.methodLink RL 59 yX0_unread, Cond.instanceMethod yX0_unread, Cond.selects RX0 yX0_unread yX0_unread]
def wsL_law0_r6 : List Cond := [Cond.code yX0_unread cX0_unread 1 (some .boolean), Cond.methodLink RL 63 yX1_unread, Cond.instanceMethod yX1_unread, Cond.selects RX1 yX1_unread yX1_unread, Cond.code yX1_unread cX1_unread 1 (some .boolean), Cond.methodLink RL 64 yX0_length, Cond.instanceMethod yX0_length, Cond.selects RX0 yX0_length yX0_length, Cond.code yX0_length cX0_length 1 (some .int), Cond.methodLink RL 67 yX1_length, Cond.instanceMethod yX1_length, Cond.selects RX1 yX1_length yX1_length, Cond.code yX1_length cX1_length 1 (some .int), Cond.methodLink RL 68 yL_forward, Cond.static yL_forward, Cond.initialized RL, Cond.codeWith yL_forward cL_forward 5 (some .int) [(0, 9, 12, 13), (0, 9, 16, 15)], Cond.classLink RL 13 "java/lang/IndexOutOfBoundsException", Cond.classLink RL 15 "java/lang/IllegalArgumentException", Cond.methodLink RL 7 yX0_forward, Cond.instanceMethod yX0_forward, Cond.selects RX0 yX0_forward yX0_forward, Cond.code yX0_forward cX0_forward 3 (some .double), Cond.methodLink RX0 65 yX0_refuseWrongPlace]
def wsL_law0_r7 : List Cond := [Cond.instanceMethod yX0_refuseWrongPlace, Cond.selects RX0 yX0_refuseWrongPlace yX0_refuseWrongPlace, Cond.code yX0_refuseWrongPlace cX0_refuseWrongPlace 3 none, Cond.classLink RX0 99 "java/lang/IndexOutOfBoundsException", Cond.initialized "java/lang/IndexOutOfBoundsException", Cond.classLink RX0 104 "java/lang/IllegalArgumentException", Cond.initialized "java/lang/IllegalArgumentException", Cond.methodLink RX0 86 yX0_isPlace, Cond.instanceMethod yX0_isPlace, Cond.selects RX0 yX0_isPlace yX0_isPlace, Cond.code yX0_isPlace cX0_isPlace 2 (some .boolean), Cond.methodLink RX0 69 yX0_fillForward, Cond.instanceMethod yX0_fillForward, Cond.selects RX0 yX0_fillForward yX0_fillForward, Cond.code yX0_fillForward cX0_fillForward 5 none, Cond.methodLink RX0 109 yX0_sumInto, Cond.instanceMethod yX0_sumInto, Cond.selects RX0 yX0_sumInto yX0_sumInto, Cond.code yX0_sumInto cX0_sumInto 6 (some .double), Cond.methodLink RX0 113 yX0_weightShown, Cond.instanceMethod yX0_weightShown, Cond.selects RX0 yX0_weightShown yX0_weightShown, Cond.code yX0_weightShown cX0_weightShown 3 (some .double), Cond.methodLink RL 73 yX1_forward]
def wsL_law0_r8 : List Cond := [Cond.instanceMethod yX1_forward, Cond.selects RX1 yX1_forward yX1_forward, Cond.code yX1_forward cX1_forward 3 (some .double), Cond.methodLink RX1 68 yX1_fault, Cond.instanceMethod yX1_fault, Cond.selects RX1 yX1_fault yX1_fault, Cond.code yX1_fault cX1_fault 3 (some .int), Cond.methodLink RX1 72 yX1_ahead, Cond.instanceMethod yX1_ahead, Cond.selects RX1 yX1_ahead yX1_ahead, Cond.code yX1_ahead cX1_ahead 7 none, Cond.methodLink RX1 57 yX1_shown, Cond.instanceMethod yX1_shown, Cond.selects RX1 yX1_shown yX1_shown, Cond.code yX1_shown cX1_shown 3 (some .double), Cond.methodLink RX1 61 yX1_shift, Cond.instanceMethod yX1_shift, Cond.selects RX1 yX1_shift yX1_shift, Cond.code yX1_shift cX1_shift 2 none, Cond.methodLink RL 74 yX1_thrown, Cond.instanceMethod yX1_thrown, Cond.selects RX1 yX1_thrown yX1_thrown, Cond.code yX1_thrown cX1_thrown 1 (some .int), Cond.methodLink RL 77 yL_backward]
def wsL_law0_r9 : List Cond := [Cond.static yL_backward, Cond.codeWith yL_backward cL_backward 5 (some .int) [(0, 9, 12, 13), (0, 9, 16, 15)], Cond.methodLink RL 17 yX0_backward, Cond.instanceMethod yX0_backward, Cond.selects RX0 yX0_backward yX0_backward, Cond.code yX0_backward cX0_backward 3 (some .double), Cond.methodLink RX0 72 yX0_fillBackward, Cond.instanceMethod yX0_fillBackward, Cond.selects RX0 yX0_fillBackward yX0_fillBackward, Cond.code yX0_fillBackward cX0_fillBackward 3 none, Cond.methodLink RX0 116 yX0_sumOutOf, Cond.instanceMethod yX0_sumOutOf, Cond.selects RX0 yX0_sumOutOf yX0_sumOutOf, Cond.code yX0_sumOutOf cX0_sumOutOf 6 (some .double), Cond.methodLink RL 79 yX1_backward, Cond.instanceMethod yX1_backward, Cond.selects RX1 yX1_backward yX1_backward, Cond.code yX1_backward cX1_backward 3 (some .double), Cond.methodLink RX1 76 yX1_behind, Cond.instanceMethod yX1_behind, Cond.selects RX1 yX1_behind yX1_behind, Cond.code yX1_behind cX1_behind 7 none, Cond.methodLink RL 80 yX0_total, Cond.instanceMethod yX0_total]
def wsL_law0_r10 : List Cond := [Cond.selects RX0 yX0_total yX0_total, Cond.code yX0_total cX0_total 1 (some .double), Cond.methodLink RX0 75 yX0_sumAtLast, Cond.instanceMethod yX0_sumAtLast, Cond.selects RX0 yX0_sumAtLast yX0_sumAtLast, Cond.code yX0_sumAtLast cX0_sumAtLast 4 (some .double), Cond.methodLink RL 84 yX1_total, Cond.instanceMethod yX1_total, Cond.selects RX1 yX1_total yX1_total, Cond.code yX1_total cX1_total 1 (some .double), Cond.methodLink RX1 79 yX1_all, Cond.instanceMethod yX1_all, Cond.selects RX1 yX1_all yX1_all, Cond.code yX1_all cX1_all 4 (some .double), Cond.methodLink RL 85 yX0_best, Cond.instanceMethod yX0_best, Cond.selects RX0 yX0_best yX0_best, Cond.code yX0_best cX0_best 1 (some .double), Cond.methodLink RX0 79 yX0_fillBest, Cond.instanceMethod yX0_fillBest, Cond.selects RX0 yX0_fillBest yX0_fillBest, Cond.code yX0_fillBest cX0_fillBest 4 none, Cond.methodLink RX0 119 yX0_lowestBestInto, Cond.instanceMethod yX0_lowestBestInto]
def wsL_law0_r11 : List Cond := [Cond.selects RX0 yX0_lowestBestInto yX0_lowestBestInto, Cond.code yX0_lowestBestInto cX0_lowestBestInto 9 (some .int), Cond.methodLink RX0 82 yX0_lowestBestAtLast, Cond.instanceMethod yX0_lowestBestAtLast, Cond.selects RX0 yX0_lowestBestAtLast yX0_lowestBestAtLast, Cond.code yX0_lowestBestAtLast cX0_lowestBestAtLast 3 (some .int), Cond.methodLink RL 88 yX1_best, Cond.instanceMethod yX1_best, Cond.selects RX1 yX1_best yX1_best, Cond.code yX1_best cX1_best 1 (some .double), Cond.methodLink RX1 83 yX1_greatest, Cond.instanceMethod yX1_greatest, Cond.selects RX1 yX1_greatest yX1_greatest, Cond.code yX1_greatest cX1_greatest 4 none, Cond.methodLink RX1 64 yX1_from, Cond.instanceMethod yX1_from, Cond.selects RX1 yX1_from yX1_from, Cond.code yX1_from cX1_from 4 (some .int), Cond.methodLink RX1 86 yX1_last, Cond.instanceMethod yX1_last, Cond.selects RX1 yX1_last yX1_last, Cond.code yX1_last cX1_last 3 (some .int), Cond.methodLink RL 89 yX0_bestState, Cond.instanceMethod yX0_bestState]
def wsL_law0_r12 : List Cond := [Cond.selects RX0 yX0_bestState yX0_bestState, Cond.code yX0_bestState cX0_bestState 4 (some .int), Cond.methodLink RL 93 yX1_bestState, Cond.instanceMethod yX1_bestState, Cond.selects RX1 yX1_bestState yX1_bestState, Cond.code yX1_bestState cX1_bestState 4 (some .int), Cond.methodLink RL 94 yL_share, Cond.static yL_share, Cond.codeWith yL_share cL_share 5 (some .int) [(0, 9, 12, 13), (0, 9, 16, 15), (0, 9, 20, 23)], Cond.classLink RL 23 "java/lang/ArithmeticException", Cond.methodLink RL 20 yX0_share, Cond.instanceMethod yX0_share, Cond.selects RX0 yX0_share yX0_share, Cond.code yX0_share cX0_share 5 (some .double), Cond.classLink RX0 89 "java/lang/ArithmeticException", Cond.initialized "java/lang/ArithmeticException", Cond.methodLink RL 96 yX1_share, Cond.instanceMethod yX1_share, Cond.selects RX1 yX1_share yX1_share, Cond.code yX1_share cX1_share 7 (some .double), Cond.methodLink RL 97 yX0_possible, Cond.instanceMethod yX0_possible, Cond.selects RX0 yX0_possible yX0_possible, Cond.code yX0_possible cX0_possible 4 (some .long)]
def wsL_law0_r13 : List Cond := [Cond.methodLink RX0 96 yX0_fillCounts, Cond.instanceMethod yX0_fillCounts, Cond.selects RX0 yX0_fillCounts yX0_fillCounts, Cond.code yX0_fillCounts cX0_fillCounts 3 none, Cond.methodLink RX0 123 yX0_countInto, Cond.instanceMethod yX0_countInto, Cond.selects RX0 yX0_countInto yX0_countInto, Cond.code yX0_countInto cX0_countInto 6 (some .long), Cond.methodLink RL 101 yX1_possible, Cond.instanceMethod yX1_possible, Cond.selects RX1 yX1_possible yX1_possible, Cond.code yX1_possible cX1_possible 4 (some .long)]
def wsL_law0 : List Cond := (wsL_law0_r1 ++ (wsL_law0_r2 ++ (wsL_law0_r3 ++ (wsL_law0_r4 ++ (wsL_law0_r5 ++ (wsL_law0_r6 ++ (wsL_law0_r7 ++ (wsL_law0_r8 ++ (wsL_law0_r9 ++ (wsL_law0_r10 ++ (wsL_law0_r11 ++ (wsL_law0_r12 ++ wsL_law0_r13)))))))))))) ++ wsX00 ++ wsX10 ++ ([] : List Cond)
def wsL_law : List Cond := wsL_law0 ++ (vx_atS RX0 103 "java/lang/IndexOutOfBoundsException" ["java/lang/RuntimeException", "java/lang/Exception"]).filter goodWord ++ (vx_atS RX0 108 "java/lang/IllegalArgumentException" ["java/lang/RuntimeException", "java/lang/Exception"]).filter goodWord ++ (vx_atS RX0 93 "java/lang/ArithmeticException" ["java/lang/RuntimeException", "java/lang/Exception"]).filter goodWord
set_option maxRecDepth 20000 in
theorem wsL_law_in0 : ∀ w ∈ wsL_law0, w ∈ lw_tbl := fun w h => (goodIn_p wsL_law0 [39, 42, 328, 89, 93, 371, 97, 375, 101, 105, 108, 379, 383, 386, 112, 390, 116, 119, 394, 397, 123, 401, 127, 405, 131, 409, 196, 200, 175, 139, 143, 147, 413, 417, 421, 425, 429, 367, 291, 295, 299, 433, 437, 135, 151, 441, 445, 155, 159, 163, 167, 449, 453, 457, 461, 171, 465, 307, 469, 179, 183, 187, 473] (by decide +kernel) (by decide +kernel) w h).1
theorem wsL_law_x0 : ∀ w ∈ (vx_atS RX0 103 "java/lang/IndexOutOfBoundsException" ["java/lang/RuntimeException", "java/lang/Exception"]).filter goodWord, w ∈ lw_tbl := by decide +kernel
theorem wsL_law_x1 : ∀ w ∈ (vx_atS RX0 108 "java/lang/IllegalArgumentException" ["java/lang/RuntimeException", "java/lang/Exception"]).filter goodWord, w ∈ lw_tbl := by decide +kernel
theorem wsL_law_x2 : ∀ w ∈ (vx_atS RX0 93 "java/lang/ArithmeticException" ["java/lang/RuntimeException", "java/lang/Exception"]).filter goodWord, w ∈ lw_tbl := by decide +kernel
theorem wsL_law_in : ∀ w ∈ wsL_law, w ∈ lw_tbl := fun w h => (List.mem_append.mp h).elim (fun h => (List.mem_append.mp h).elim (fun h => (List.mem_append.mp h).elim (fun h => wsL_law_in0 w h) (fun h => wsL_law_x0 w h)) (fun h => wsL_law_x1 w h)) (fun h => wsL_law_x2 w h)
theorem inlX0 : ∀ w ∈ wsX00, w ∈ wsL_law := fun _ h => List.mem_append_left _ (List.mem_append_left _ (List.mem_append_left _ (List.mem_append_left _ (List.mem_append_left _ (List.mem_append_right _ h)))))
theorem inX0 : ∀ w ∈ wsX00, w ∈ lw_tbl := fun w h => wsL_law_in w (inlX0 w h)
theorem inlX1 : ∀ w ∈ wsX10, w ∈ wsL_law := fun _ h => List.mem_append_left _ (List.mem_append_left _ (List.mem_append_left _ (List.mem_append_left _ (List.mem_append_right _ h))))
theorem inX1 : ∀ w ∈ wsX10, w ∈ lw_tbl := fun w h => wsL_law_in w (inlX1 w h)
theorem inJ0 : ∀ w ∈ wsJ00, w ∈ lw_tbl := by decide +kernel
abbrev vwCl : List vw_C := [(RX0, TX0, 11), (RX1, TX1, 11)]
end
section
theorem dX0_init_0 : decode cX0_init 0 = .ok (.aload_n 0, 1) := by decide +kernel
theorem dX0_init_1 : decode cX0_init 1 = .ok (.invokespecial 1, 3) := by decide +kernel
theorem dX0_init_4 : decode cX0_init 4 = .ok (.aload_n 0, 1) := by decide +kernel
theorem dX0_init_5 : decode cX0_init 5 = .ok (.iconst 1, 1) := by decide +kernel
theorem dX0_init_6 : decode cX0_init 6 = .ok (.putfield 7, 3) := by decide +kernel
theorem dX0_init_9 : decode cX0_init 9 = .ok (.aload_n 0, 1) := by decide +kernel
theorem dX0_init_10 : decode cX0_init 10 = .ok (.iconst 0, 1) := by decide +kernel
theorem dX0_init_11 : decode cX0_init 11 = .ok (.putfield 13, 3) := by decide +kernel
theorem dX0_init_14 : decode cX0_init 14 = .ok (.aload_n 0, 1) := by decide +kernel
theorem dX0_init_15 : decode cX0_init 15 = .ok (.bipush 12, 2) := by decide +kernel
theorem dX0_init_17 : decode cX0_init 17 = .ok (.newarray .int, 2) := by decide +kernel
theorem dX0_init_19 : decode cX0_init 19 = .ok (.putfield 16, 3) := by decide +kernel
theorem dX0_init_22 : decode cX0_init 22 = .ok (.aload_n 0, 1) := by decide +kernel
theorem dX0_init_23 : decode cX0_init 23 = .ok (.bipush 6, 2) := by decide +kernel
theorem dX0_init_25 : decode cX0_init 25 = .ok (.newarray .double, 2) := by decide +kernel
theorem dX0_init_27 : decode cX0_init 27 = .ok (.putfield 20, 3) := by decide +kernel
theorem dX0_init_30 : decode cX0_init 30 = .ok (.aload_n 0, 1) := by decide +kernel
theorem dX0_init_31 : decode cX0_init 31 = .ok (.bipush 6, 2) := by decide +kernel
theorem dX0_init_33 : decode cX0_init 33 = .ok (.bipush 6, 2) := by decide +kernel
theorem dX0_init_35 : decode cX0_init 35 = .ok (.multianewarray 24 2, 4) := by decide +kernel
theorem dX0_init_39 : decode cX0_init 39 = .ok (.putfield 26, 3) := by decide +kernel
theorem dX0_init_42 : decode cX0_init 42 = .ok (.aload_n 0, 1) := by decide +kernel
theorem dX0_init_43 : decode cX0_init 43 = .ok (.bipush 6, 2) := by decide +kernel
theorem dX0_init_45 : decode cX0_init 45 = .ok (.iconst 4, 1) := by decide +kernel
theorem dX0_init_46 : decode cX0_init 46 = .ok (.multianewarray 24 2, 4) := by decide +kernel
theorem dX0_init_50 : decode cX0_init 50 = .ok (.putfield 29, 3) := by decide +kernel
theorem dX0_init_53 : decode cX0_init 53 = .ok (.aload_n 0, 1) := by decide +kernel
theorem dX0_init_54 : decode cX0_init 54 = .ok (.bipush 12, 2) := by decide +kernel
theorem dX0_init_56 : decode cX0_init 56 = .ok (.bipush 6, 2) := by decide +kernel
theorem dX0_init_58 : decode cX0_init 58 = .ok (.multianewarray 24 2, 4) := by decide +kernel
theorem dX0_init_62 : decode cX0_init 62 = .ok (.putfield 32, 3) := by decide +kernel
theorem dX0_init_65 : decode cX0_init 65 = .ok (.aload_n 0, 1) := by decide +kernel
theorem dX0_init_66 : decode cX0_init 66 = .ok (.bipush 12, 2) := by decide +kernel
theorem dX0_init_68 : decode cX0_init 68 = .ok (.bipush 6, 2) := by decide +kernel
theorem dX0_init_70 : decode cX0_init 70 = .ok (.multianewarray 24 2, 4) := by decide +kernel
theorem dX0_init_74 : decode cX0_init 74 = .ok (.putfield 35, 3) := by decide +kernel
theorem dX0_init_77 : decode cX0_init 77 = .ok (.aload_n 0, 1) := by decide +kernel
theorem dX0_init_78 : decode cX0_init 78 = .ok (.bipush 12, 2) := by decide +kernel
theorem dX0_init_80 : decode cX0_init 80 = .ok (.bipush 6, 2) := by decide +kernel
theorem dX0_init_82 : decode cX0_init 82 = .ok (.multianewarray 24 2, 4) := by decide +kernel
theorem dX0_init_86 : decode cX0_init 86 = .ok (.putfield 38, 3) := by decide +kernel
theorem dX0_init_89 : decode cX0_init 89 = .ok (.aload_n 0, 1) := by decide +kernel
theorem dX0_init_90 : decode cX0_init 90 = .ok (.bipush 12, 2) := by decide +kernel
theorem dX0_init_92 : decode cX0_init 92 = .ok (.bipush 6, 2) := by decide +kernel
theorem dX0_init_94 : decode cX0_init 94 = .ok (.multianewarray 41 2, 4) := by decide +kernel
theorem dX0_init_98 : decode cX0_init 98 = .ok (.putfield 43, 3) := by decide +kernel
theorem dX0_init_101 : decode cX0_init 101 = .ok (.aload_n 0, 1) := by decide +kernel
theorem dX0_init_102 : decode cX0_init 102 = .ok (.bipush 12, 2) := by decide +kernel
theorem dX0_init_104 : decode cX0_init 104 = .ok (.bipush 6, 2) := by decide +kernel
theorem dX0_init_106 : decode cX0_init 106 = .ok (.multianewarray 46 2, 4) := by decide +kernel
theorem dX0_init_110 : decode cX0_init 110 = .ok (.putfield 48, 3) := by decide +kernel
theorem dX0_init_113 : decode cX0_init 113 = .ok (.return_, 1) := by decide +kernel
set_option maxRecDepth 20000 in
theorem ggX0_states_X0_clearWeights : GoodIn wsX0_states wsX0_clearWeights := goodIn_r _ [7, 8, 9, 10, 11, 12, 13, 14, 15, 16, 17, 18, 19, 20, 21] (by decide +kernel) (by decide +kernel)
set_option maxRecDepth 20000 in
theorem gX0_states_X0_clearWeights : GoodIn wsX0_states (wsV RX0 51 RX0 yX0_clearWeights wsX0_clearWeights) := goodIn_app (goodIn_of _ (by decide +kernel)) ggX0_states_X0_clearWeights
theorem dX0_states_0 : decode cX0_states 0 = .ok (.iload_n 1, 1) := by decide +kernel
theorem dX0_states_1 : decode cX0_states 1 = .ok (.iconst 1, 1) := by decide +kernel
theorem dX0_states_2 : decode cX0_states 2 = .ok (.if_icmp .lt 9, 3) := by decide +kernel
theorem dX0_states_5 : decode cX0_states 5 = .ok (.iload_n 1, 1) := by decide +kernel
theorem dX0_states_6 : decode cX0_states 6 = .ok (.bipush 6, 2) := by decide +kernel
theorem dX0_states_8 : decode cX0_states 8 = .ok (.if_icmp .le 5, 3) := by decide +kernel
theorem dX0_states_11 : decode cX0_states 11 = .ok (.iconst 0, 1) := by decide +kernel
theorem dX0_states_12 : decode cX0_states 12 = .ok (.ireturn, 1) := by decide +kernel
theorem dX0_states_13 : decode cX0_states 13 = .ok (.aload_n 0, 1) := by decide +kernel
theorem dX0_states_14 : decode cX0_states 14 = .ok (.iload_n 1, 1) := by decide +kernel
theorem dX0_states_15 : decode cX0_states 15 = .ok (.putfield 7, 3) := by decide +kernel
theorem dX0_states_18 : decode cX0_states 18 = .ok (.aload_n 0, 1) := by decide +kernel
theorem dX0_states_19 : decode cX0_states 19 = .ok (.iconst 0, 1) := by decide +kernel
theorem dX0_states_20 : decode cX0_states 20 = .ok (.putfield 13, 3) := by decide +kernel
theorem dX0_states_23 : decode cX0_states 23 = .ok (.aload_n 0, 1) := by decide +kernel
theorem dX0_states_24 : decode cX0_states 24 = .ok (.invokevirtual 51, 3) := by decide +kernel
theorem dX0_states_27 : decode cX0_states 27 = .ok (.iconst 1, 1) := by decide +kernel
theorem dX0_states_28 : decode cX0_states 28 = .ok (.ireturn, 1) := by decide +kernel
theorem dX0_size_0 : decode cX0_size 0 = .ok (.aload_n 0, 1) := by decide +kernel
theorem dX0_size_1 : decode cX0_size 1 = .ok (.getfield 7, 3) := by decide +kernel
theorem dX0_size_4 : decode cX0_size 4 = .ok (.ireturn, 1) := by decide +kernel
set_option maxRecDepth 20000 in
theorem ggX0_start_X0_isState : GoodIn wsX0_start wsX0_isState := goodIn_r _ [6, 7, 11, 12, 13, 14, 15, 16, 17, 18, 19, 20, 21] (by decide +kernel) (by decide +kernel)
set_option maxRecDepth 20000 in
theorem gX0_start_X0_isState : GoodIn wsX0_start (wsV RX0 54 RX0 yX0_isState wsX0_isState) := goodIn_app (goodIn_of _ (by decide +kernel)) ggX0_start_X0_isState
set_option maxRecDepth 20000 in
theorem ggX0_start_X0_isWeight : GoodIn wsX0_start wsX0_isWeight := goodIn_r _ [10] (by decide +kernel) (by decide +kernel)
set_option maxRecDepth 20000 in
theorem gX0_start_X0_isWeight : GoodIn wsX0_start (va_wsS RX0 58 yX0_isWeight wsX0_isWeight) := goodIn_app (goodIn_of _ (by decide +kernel)) ggX0_start_X0_isWeight
theorem dX0_start_0 : decode cX0_start 0 = .ok (.aload_n 0, 1) := by decide +kernel
theorem dX0_start_1 : decode cX0_start 1 = .ok (.iload_n 1, 1) := by decide +kernel
theorem dX0_start_2 : decode cX0_start 2 = .ok (.invokevirtual 54, 3) := by decide +kernel
theorem dX0_start_5 : decode cX0_start 5 = .ok (.ifCond .eq 10, 3) := by decide +kernel
theorem dX0_start_8 : decode cX0_start 8 = .ok (.dload_n 2, 1) := by decide +kernel
theorem dX0_start_9 : decode cX0_start 9 = .ok (.invokestatic 58, 3) := by decide +kernel
theorem dX0_start_12 : decode cX0_start 12 = .ok (.ifCond .ne 5, 3) := by decide +kernel
theorem dX0_start_15 : decode cX0_start 15 = .ok (.iconst 0, 1) := by decide +kernel
theorem dX0_start_16 : decode cX0_start 16 = .ok (.ireturn, 1) := by decide +kernel
theorem dX0_start_17 : decode cX0_start 17 = .ok (.aload_n 0, 1) := by decide +kernel
theorem dX0_start_18 : decode cX0_start 18 = .ok (.getfield 20, 3) := by decide +kernel
theorem dX0_start_21 : decode cX0_start 21 = .ok (.iload_n 1, 1) := by decide +kernel
theorem dX0_start_22 : decode cX0_start 22 = .ok (.dload_n 2, 1) := by decide +kernel
theorem dX0_start_23 : decode cX0_start 23 = .ok (.dastore, 1) := by decide +kernel
theorem dX0_start_24 : decode cX0_start 24 = .ok (.iconst 1, 1) := by decide +kernel
theorem dX0_start_25 : decode cX0_start 25 = .ok (.ireturn, 1) := by decide +kernel
set_option maxRecDepth 20000 in
theorem ggX0_move_X0_isState : GoodIn wsX0_move wsX0_isState := goodIn_r _ [6, 7, 11, 12, 13, 14, 15, 16, 17, 18, 19, 20, 21] (by decide +kernel) (by decide +kernel)
set_option maxRecDepth 20000 in
theorem gX0_move_X0_isState : GoodIn wsX0_move (wsV RX0 54 RX0 yX0_isState wsX0_isState) := goodIn_app (goodIn_of _ (by decide +kernel)) ggX0_move_X0_isState
set_option maxRecDepth 20000 in
theorem ggX0_move_X0_isWeight : GoodIn wsX0_move wsX0_isWeight := goodIn_r _ [10] (by decide +kernel) (by decide +kernel)
set_option maxRecDepth 20000 in
theorem gX0_move_X0_isWeight : GoodIn wsX0_move (va_wsS RX0 58 yX0_isWeight wsX0_isWeight) := goodIn_app (goodIn_of _ (by decide +kernel)) ggX0_move_X0_isWeight
theorem dX0_move_0 : decode cX0_move 0 = .ok (.aload_n 0, 1) := by decide +kernel
theorem dX0_move_1 : decode cX0_move 1 = .ok (.iload_n 1, 1) := by decide +kernel
theorem dX0_move_2 : decode cX0_move 2 = .ok (.invokevirtual 54, 3) := by decide +kernel
theorem dX0_move_5 : decode cX0_move 5 = .ok (.ifCond .eq 18, 3) := by decide +kernel
theorem dX0_move_8 : decode cX0_move 8 = .ok (.aload_n 0, 1) := by decide +kernel
theorem dX0_move_9 : decode cX0_move 9 = .ok (.iload_n 2, 1) := by decide +kernel
theorem dX0_move_10 : decode cX0_move 10 = .ok (.invokevirtual 54, 3) := by decide +kernel
theorem dX0_move_13 : decode cX0_move 13 = .ok (.ifCond .eq 10, 3) := by decide +kernel
theorem dX0_move_16 : decode cX0_move 16 = .ok (.dload_n 3, 1) := by decide +kernel
theorem dX0_move_17 : decode cX0_move 17 = .ok (.invokestatic 58, 3) := by decide +kernel
theorem dX0_move_20 : decode cX0_move 20 = .ok (.ifCond .ne 5, 3) := by decide +kernel
theorem dX0_move_23 : decode cX0_move 23 = .ok (.iconst 0, 1) := by decide +kernel
theorem dX0_move_24 : decode cX0_move 24 = .ok (.ireturn, 1) := by decide +kernel
theorem dX0_move_25 : decode cX0_move 25 = .ok (.aload_n 0, 1) := by decide +kernel
theorem dX0_move_26 : decode cX0_move 26 = .ok (.getfield 26, 3) := by decide +kernel
theorem dX0_move_29 : decode cX0_move 29 = .ok (.iload_n 1, 1) := by decide +kernel
theorem dX0_move_30 : decode cX0_move 30 = .ok (.aaload, 1) := by decide +kernel
theorem dX0_move_31 : decode cX0_move 31 = .ok (.iload_n 2, 1) := by decide +kernel
theorem dX0_move_32 : decode cX0_move 32 = .ok (.dload_n 3, 1) := by decide +kernel
theorem dX0_move_33 : decode cX0_move 33 = .ok (.dastore, 1) := by decide +kernel
theorem dX0_move_34 : decode cX0_move 34 = .ok (.iconst 1, 1) := by decide +kernel
theorem dX0_move_35 : decode cX0_move 35 = .ok (.ireturn, 1) := by decide +kernel
set_option maxRecDepth 20000 in
theorem ggX0_show_X0_isState : GoodIn wsX0_show wsX0_isState := goodIn_r _ [6, 7, 14, 15, 16, 17, 18, 19, 20, 21, 22, 23, 24] (by decide +kernel) (by decide +kernel)
set_option maxRecDepth 20000 in
theorem gX0_show_X0_isState : GoodIn wsX0_show (wsV RX0 54 RX0 yX0_isState wsX0_isState) := goodIn_app (goodIn_of _ (by decide +kernel)) ggX0_show_X0_isState
set_option maxRecDepth 20000 in
theorem ggX0_show_X0_isSymbol : GoodIn wsX0_show wsX0_isSymbol := goodIn_r _ [10] (by decide +kernel) (by decide +kernel)
set_option maxRecDepth 20000 in
theorem gX0_show_X0_isSymbol : GoodIn wsX0_show (va_wsS RX0 62 yX0_isSymbol wsX0_isSymbol) := goodIn_app (goodIn_of _ (by decide +kernel)) ggX0_show_X0_isSymbol
set_option maxRecDepth 20000 in
theorem ggX0_show_X0_isWeight : GoodIn wsX0_show wsX0_isWeight := goodIn_r _ [13] (by decide +kernel) (by decide +kernel)
set_option maxRecDepth 20000 in
theorem gX0_show_X0_isWeight : GoodIn wsX0_show (va_wsS RX0 58 yX0_isWeight wsX0_isWeight) := goodIn_app (goodIn_of _ (by decide +kernel)) ggX0_show_X0_isWeight
theorem dX0_show_0 : decode cX0_show 0 = .ok (.aload_n 0, 1) := by decide +kernel
theorem dX0_show_1 : decode cX0_show 1 = .ok (.iload_n 1, 1) := by decide +kernel
theorem dX0_show_2 : decode cX0_show 2 = .ok (.invokevirtual 54, 3) := by decide +kernel
theorem dX0_show_5 : decode cX0_show 5 = .ok (.ifCond .eq 17, 3) := by decide +kernel
theorem dX0_show_8 : decode cX0_show 8 = .ok (.iload_n 2, 1) := by decide +kernel
theorem dX0_show_9 : decode cX0_show 9 = .ok (.invokestatic 62, 3) := by decide +kernel
theorem dX0_show_12 : decode cX0_show 12 = .ok (.ifCond .eq 10, 3) := by decide +kernel
theorem dX0_show_15 : decode cX0_show 15 = .ok (.dload_n 3, 1) := by decide +kernel
theorem dX0_show_16 : decode cX0_show 16 = .ok (.invokestatic 58, 3) := by decide +kernel
theorem dX0_show_19 : decode cX0_show 19 = .ok (.ifCond .ne 5, 3) := by decide +kernel
theorem dX0_show_22 : decode cX0_show 22 = .ok (.iconst 0, 1) := by decide +kernel
theorem dX0_show_23 : decode cX0_show 23 = .ok (.ireturn, 1) := by decide +kernel
theorem dX0_show_24 : decode cX0_show 24 = .ok (.aload_n 0, 1) := by decide +kernel
theorem dX0_show_25 : decode cX0_show 25 = .ok (.getfield 29, 3) := by decide +kernel
theorem dX0_show_28 : decode cX0_show 28 = .ok (.iload_n 1, 1) := by decide +kernel
theorem dX0_show_29 : decode cX0_show 29 = .ok (.aaload, 1) := by decide +kernel
theorem dX0_show_30 : decode cX0_show 30 = .ok (.iload_n 2, 1) := by decide +kernel
theorem dX0_show_31 : decode cX0_show 31 = .ok (.dload_n 3, 1) := by decide +kernel
theorem dX0_show_32 : decode cX0_show 32 = .ok (.dastore, 1) := by decide +kernel
theorem dX0_show_33 : decode cX0_show 33 = .ok (.iconst 1, 1) := by decide +kernel
theorem dX0_show_34 : decode cX0_show 34 = .ok (.ireturn, 1) := by decide +kernel
set_option maxRecDepth 20000 in
theorem ggX0_read_X0_isSymbol : GoodIn wsX0_read wsX0_isSymbol := goodIn_r _ [6] (by decide +kernel) (by decide +kernel)
set_option maxRecDepth 20000 in
theorem gX0_read_X0_isSymbol : GoodIn wsX0_read (va_wsS RX0 62 yX0_isSymbol wsX0_isSymbol) := goodIn_app (goodIn_of _ (by decide +kernel)) ggX0_read_X0_isSymbol
theorem dX0_read_0 : decode cX0_read 0 = .ok (.iload_n 1, 1) := by decide +kernel
theorem dX0_read_1 : decode cX0_read 1 = .ok (.invokestatic 62, 3) := by decide +kernel
theorem dX0_read_4 : decode cX0_read 4 = .ok (.ifCond .eq 12, 3) := by decide +kernel
theorem dX0_read_7 : decode cX0_read 7 = .ok (.aload_n 0, 1) := by decide +kernel
theorem dX0_read_8 : decode cX0_read 8 = .ok (.getfield 13, 3) := by decide +kernel
theorem dX0_read_11 : decode cX0_read 11 = .ok (.bipush 12, 2) := by decide +kernel
theorem dX0_read_13 : decode cX0_read 13 = .ok (.if_icmp .lt 5, 3) := by decide +kernel
theorem dX0_read_16 : decode cX0_read 16 = .ok (.iconst 0, 1) := by decide +kernel
theorem dX0_read_17 : decode cX0_read 17 = .ok (.ireturn, 1) := by decide +kernel
theorem dX0_read_18 : decode cX0_read 18 = .ok (.aload_n 0, 1) := by decide +kernel
theorem dX0_read_19 : decode cX0_read 19 = .ok (.getfield 16, 3) := by decide +kernel
theorem dX0_read_22 : decode cX0_read 22 = .ok (.aload_n 0, 1) := by decide +kernel
theorem dX0_read_23 : decode cX0_read 23 = .ok (.getfield 13, 3) := by decide +kernel
theorem dX0_read_26 : decode cX0_read 26 = .ok (.iload_n 1, 1) := by decide +kernel
theorem dX0_read_27 : decode cX0_read 27 = .ok (.iastore, 1) := by decide +kernel
theorem dX0_read_28 : decode cX0_read 28 = .ok (.aload_n 0, 1) := by decide +kernel
theorem dX0_read_29 : decode cX0_read 29 = .ok (.dup, 1) := by decide +kernel
theorem dX0_read_30 : decode cX0_read 30 = .ok (.getfield 13, 3) := by decide +kernel
theorem dX0_read_33 : decode cX0_read 33 = .ok (.iconst 1, 1) := by decide +kernel
theorem dX0_read_34 : decode cX0_read 34 = .ok (.iadd, 1) := by decide +kernel
theorem dX0_read_35 : decode cX0_read 35 = .ok (.putfield 13, 3) := by decide +kernel
theorem dX0_read_38 : decode cX0_read 38 = .ok (.iconst 1, 1) := by decide +kernel
theorem dX0_read_39 : decode cX0_read 39 = .ok (.ireturn, 1) := by decide +kernel
theorem dX0_unread_0 : decode cX0_unread 0 = .ok (.aload_n 0, 1) := by decide +kernel
theorem dX0_unread_1 : decode cX0_unread 1 = .ok (.getfield 13, 3) := by decide +kernel
theorem dX0_unread_4 : decode cX0_unread 4 = .ok (.ifCond .ne 5, 3) := by decide +kernel
theorem dX0_unread_7 : decode cX0_unread 7 = .ok (.iconst 0, 1) := by decide +kernel
theorem dX0_unread_8 : decode cX0_unread 8 = .ok (.ireturn, 1) := by decide +kernel
theorem dX0_unread_9 : decode cX0_unread 9 = .ok (.aload_n 0, 1) := by decide +kernel
theorem dX0_unread_10 : decode cX0_unread 10 = .ok (.dup, 1) := by decide +kernel
theorem dX0_unread_11 : decode cX0_unread 11 = .ok (.getfield 13, 3) := by decide +kernel
theorem dX0_unread_14 : decode cX0_unread 14 = .ok (.iconst 1, 1) := by decide +kernel
theorem dX0_unread_15 : decode cX0_unread 15 = .ok (.isub, 1) := by decide +kernel
theorem dX0_unread_16 : decode cX0_unread 16 = .ok (.putfield 13, 3) := by decide +kernel
theorem dX0_unread_19 : decode cX0_unread 19 = .ok (.iconst 1, 1) := by decide +kernel
theorem dX0_unread_20 : decode cX0_unread 20 = .ok (.ireturn, 1) := by decide +kernel
theorem dX0_length_0 : decode cX0_length 0 = .ok (.aload_n 0, 1) := by decide +kernel
theorem dX0_length_1 : decode cX0_length 1 = .ok (.getfield 13, 3) := by decide +kernel
theorem dX0_length_4 : decode cX0_length 4 = .ok (.ireturn, 1) := by decide +kernel
set_option maxRecDepth 20000 in
theorem ggX0_forward_X0_refuseWrongPlace : GoodIn wsX0_forward wsX0_refuseWrongPlace := goodIn_ca (goodIn_ca (goodIn_r _ [6, 7, 8, 9, 10, 11, 12, 13, 5, 14, 15, 16, 17, 18, 19, 20, 37, 38, 39, 40, 41, 42, 43, 44, 45, 46, 47] (by decide +kernel) (by decide +kernel)) (goodIn_sub (fun _ h => List.mem_cons_of_mem _ (List.mem_append_left _ (List.mem_append_right _ h))) (by decide +kernel))) (goodIn_sub (fun _ h => List.mem_cons_of_mem _ (List.mem_append_right _ h)) (by decide +kernel))
set_option maxRecDepth 20000 in
theorem gX0_forward_X0_refuseWrongPlace : GoodIn wsX0_forward (wsV RX0 65 RX0 yX0_refuseWrongPlace wsX0_refuseWrongPlace) := goodIn_app (goodIn_of _ (by decide +kernel)) ggX0_forward_X0_refuseWrongPlace
set_option maxRecDepth 20000 in
theorem ggX0_forward_X0_fillForward : GoodIn wsX0_forward wsX0_fillForward := goodIn_r _ [24, 15, 20, 25, 1, 26, 27, 28, 5, 29, 30, 31, 32, 33, 34, 35, 36, 37, 38, 39, 40, 41, 42, 43, 44, 45, 46, 47] (by decide +kernel) (by decide +kernel)
set_option maxRecDepth 20000 in
theorem gX0_forward_X0_fillForward : GoodIn wsX0_forward (wsV RX0 69 RX0 yX0_fillForward wsX0_fillForward) := goodIn_app (goodIn_of _ (by decide +kernel)) ggX0_forward_X0_fillForward
theorem dX0_forward_0 : decode cX0_forward 0 = .ok (.aload_n 0, 1) := by decide +kernel
theorem dX0_forward_1 : decode cX0_forward 1 = .ok (.iload_n 1, 1) := by decide +kernel
theorem dX0_forward_2 : decode cX0_forward 2 = .ok (.iload_n 2, 1) := by decide +kernel
theorem dX0_forward_3 : decode cX0_forward 3 = .ok (.invokevirtual 65, 3) := by decide +kernel
theorem dX0_forward_6 : decode cX0_forward 6 = .ok (.aload_n 0, 1) := by decide +kernel
theorem dX0_forward_7 : decode cX0_forward 7 = .ok (.invokevirtual 69, 3) := by decide +kernel
theorem dX0_forward_10 : decode cX0_forward 10 = .ok (.aload_n 0, 1) := by decide +kernel
theorem dX0_forward_11 : decode cX0_forward 11 = .ok (.getfield 32, 3) := by decide +kernel
theorem dX0_forward_14 : decode cX0_forward 14 = .ok (.iload_n 1, 1) := by decide +kernel
theorem dX0_forward_15 : decode cX0_forward 15 = .ok (.aaload, 1) := by decide +kernel
theorem dX0_forward_16 : decode cX0_forward 16 = .ok (.iload_n 2, 1) := by decide +kernel
theorem dX0_forward_17 : decode cX0_forward 17 = .ok (.daload, 1) := by decide +kernel
theorem dX0_forward_18 : decode cX0_forward 18 = .ok (.dreturn, 1) := by decide +kernel
set_option maxRecDepth 20000 in
theorem ggX0_backward_X0_refuseWrongPlace : GoodIn wsX0_backward wsX0_refuseWrongPlace := goodIn_ca (goodIn_ca (goodIn_r _ [6, 7, 8, 9, 10, 11, 12, 13, 5, 14, 15, 16, 17, 18, 19, 20, 36, 37, 38, 39, 40, 41, 42, 43, 44, 45, 46] (by decide +kernel) (by decide +kernel)) (goodIn_sub (fun _ h => List.mem_cons_of_mem _ (List.mem_append_left _ (List.mem_append_right _ h))) (by decide +kernel))) (goodIn_sub (fun _ h => List.mem_cons_of_mem _ (List.mem_append_right _ h)) (by decide +kernel))
set_option maxRecDepth 20000 in
theorem gX0_backward_X0_refuseWrongPlace : GoodIn wsX0_backward (wsV RX0 65 RX0 yX0_refuseWrongPlace wsX0_refuseWrongPlace) := goodIn_app (goodIn_of _ (by decide +kernel)) ggX0_backward_X0_refuseWrongPlace
set_option maxRecDepth 20000 in
theorem ggX0_backward_X0_fillBackward : GoodIn wsX0_backward wsX0_fillBackward := goodIn_r _ [24, 15, 20, 1, 25, 26, 27, 5, 28, 29, 30, 31, 32, 33, 34, 35, 36, 37, 38, 39, 40, 41, 42, 43, 44, 45, 46] (by decide +kernel) (by decide +kernel)
set_option maxRecDepth 20000 in
theorem gX0_backward_X0_fillBackward : GoodIn wsX0_backward (wsV RX0 72 RX0 yX0_fillBackward wsX0_fillBackward) := goodIn_app (goodIn_of _ (by decide +kernel)) ggX0_backward_X0_fillBackward
theorem dX0_backward_0 : decode cX0_backward 0 = .ok (.aload_n 0, 1) := by decide +kernel
theorem dX0_backward_1 : decode cX0_backward 1 = .ok (.iload_n 1, 1) := by decide +kernel
theorem dX0_backward_2 : decode cX0_backward 2 = .ok (.iload_n 2, 1) := by decide +kernel
theorem dX0_backward_3 : decode cX0_backward 3 = .ok (.invokevirtual 65, 3) := by decide +kernel
theorem dX0_backward_6 : decode cX0_backward 6 = .ok (.aload_n 0, 1) := by decide +kernel
theorem dX0_backward_7 : decode cX0_backward 7 = .ok (.invokevirtual 72, 3) := by decide +kernel
theorem dX0_backward_10 : decode cX0_backward 10 = .ok (.aload_n 0, 1) := by decide +kernel
theorem dX0_backward_11 : decode cX0_backward 11 = .ok (.getfield 35, 3) := by decide +kernel
theorem dX0_backward_14 : decode cX0_backward 14 = .ok (.iload_n 1, 1) := by decide +kernel
theorem dX0_backward_15 : decode cX0_backward 15 = .ok (.aaload, 1) := by decide +kernel
theorem dX0_backward_16 : decode cX0_backward 16 = .ok (.iload_n 2, 1) := by decide +kernel
theorem dX0_backward_17 : decode cX0_backward 17 = .ok (.daload, 1) := by decide +kernel
theorem dX0_backward_18 : decode cX0_backward 18 = .ok (.dreturn, 1) := by decide +kernel
set_option maxRecDepth 20000 in
theorem ggX0_total_X0_fillForward : GoodIn wsX0_total wsX0_fillForward := goodIn_r _ [6, 1, 7, 8, 9, 10, 11, 12, 5, 13, 14, 15, 16, 17, 18, 19, 20, 25, 26, 27, 28, 29, 30, 31, 32, 33, 34, 35] (by decide +kernel) (by decide +kernel)
set_option maxRecDepth 20000 in
theorem gX0_total_X0_fillForward : GoodIn wsX0_total (wsV RX0 69 RX0 yX0_fillForward wsX0_fillForward) := goodIn_app (goodIn_of _ (by decide +kernel)) ggX0_total_X0_fillForward
set_option maxRecDepth 20000 in
theorem ggX0_total_X0_sumAtLast : GoodIn wsX0_total wsX0_sumAtLast := goodIn_r _ [24, 7, 9, 1, 25, 26, 27, 28, 29, 30, 31, 32, 33, 34, 35] (by decide +kernel) (by decide +kernel)
set_option maxRecDepth 20000 in
theorem gX0_total_X0_sumAtLast : GoodIn wsX0_total (wsV RX0 75 RX0 yX0_sumAtLast wsX0_sumAtLast) := goodIn_app (goodIn_of _ (by decide +kernel)) ggX0_total_X0_sumAtLast
theorem dX0_total_0 : decode cX0_total 0 = .ok (.aload_n 0, 1) := by decide +kernel
theorem dX0_total_1 : decode cX0_total 1 = .ok (.getfield 13, 3) := by decide +kernel
theorem dX0_total_4 : decode cX0_total 4 = .ok (.ifCond .ne 5, 3) := by decide +kernel
theorem dX0_total_7 : decode cX0_total 7 = .ok (.dconst 1, 1) := by decide +kernel
theorem dX0_total_8 : decode cX0_total 8 = .ok (.dreturn, 1) := by decide +kernel
theorem dX0_total_9 : decode cX0_total 9 = .ok (.aload_n 0, 1) := by decide +kernel
theorem dX0_total_10 : decode cX0_total 10 = .ok (.invokevirtual 69, 3) := by decide +kernel
theorem dX0_total_13 : decode cX0_total 13 = .ok (.aload_n 0, 1) := by decide +kernel
theorem dX0_total_14 : decode cX0_total 14 = .ok (.invokevirtual 75, 3) := by decide +kernel
theorem dX0_total_17 : decode cX0_total 17 = .ok (.dreturn, 1) := by decide +kernel
set_option maxRecDepth 20000 in
theorem ggX0_best_X0_fillBest : GoodIn wsX0_best wsX0_fillBest := goodIn_r _ [7, 8, 2, 9, 1, 10, 11, 12, 13, 14, 6, 15, 16, 17, 18, 19, 20, 21, 26, 27, 28, 29, 30, 31, 32, 33, 34, 35, 36] (by decide +kernel) (by decide +kernel)
set_option maxRecDepth 20000 in
theorem gX0_best_X0_fillBest : GoodIn wsX0_best (wsV RX0 79 RX0 yX0_fillBest wsX0_fillBest) := goodIn_app (goodIn_of _ (by decide +kernel)) ggX0_best_X0_fillBest
set_option maxRecDepth 20000 in
theorem ggX0_best_X0_lowestBestAtLast : GoodIn wsX0_best wsX0_lowestBestAtLast := goodIn_r _ [25, 8, 2, 1, 26, 27, 28, 29, 30, 31, 32, 33, 34, 35, 36] (by decide +kernel) (by decide +kernel)
set_option maxRecDepth 20000 in
theorem gX0_best_X0_lowestBestAtLast : GoodIn wsX0_best (wsV RX0 82 RX0 yX0_lowestBestAtLast wsX0_lowestBestAtLast) := goodIn_app (goodIn_of _ (by decide +kernel)) ggX0_best_X0_lowestBestAtLast
theorem dX0_best_0 : decode cX0_best 0 = .ok (.aload_n 0, 1) := by decide +kernel
theorem dX0_best_1 : decode cX0_best 1 = .ok (.getfield 13, 3) := by decide +kernel
theorem dX0_best_4 : decode cX0_best 4 = .ok (.ifCond .ne 5, 3) := by decide +kernel
theorem dX0_best_7 : decode cX0_best 7 = .ok (.dconst 1, 1) := by decide +kernel
theorem dX0_best_8 : decode cX0_best 8 = .ok (.dreturn, 1) := by decide +kernel
theorem dX0_best_9 : decode cX0_best 9 = .ok (.aload_n 0, 1) := by decide +kernel
theorem dX0_best_10 : decode cX0_best 10 = .ok (.invokevirtual 79, 3) := by decide +kernel
theorem dX0_best_13 : decode cX0_best 13 = .ok (.aload_n 0, 1) := by decide +kernel
theorem dX0_best_14 : decode cX0_best 14 = .ok (.getfield 38, 3) := by decide +kernel
theorem dX0_best_17 : decode cX0_best 17 = .ok (.aload_n 0, 1) := by decide +kernel
theorem dX0_best_18 : decode cX0_best 18 = .ok (.getfield 13, 3) := by decide +kernel
theorem dX0_best_21 : decode cX0_best 21 = .ok (.iconst 1, 1) := by decide +kernel
theorem dX0_best_22 : decode cX0_best 22 = .ok (.isub, 1) := by decide +kernel
theorem dX0_best_23 : decode cX0_best 23 = .ok (.aaload, 1) := by decide +kernel
theorem dX0_best_24 : decode cX0_best 24 = .ok (.aload_n 0, 1) := by decide +kernel
theorem dX0_best_25 : decode cX0_best 25 = .ok (.invokevirtual 82, 3) := by decide +kernel
theorem dX0_best_28 : decode cX0_best 28 = .ok (.daload, 1) := by decide +kernel
theorem dX0_best_29 : decode cX0_best 29 = .ok (.dreturn, 1) := by decide +kernel
set_option maxRecDepth 20000 in
theorem ggX0_bestState_X0_isPlace : GoodIn wsX0_bestState wsX0_isPlace := goodIn_r _ [7, 1, 30, 31, 32, 33, 34, 35, 36, 37, 38, 39, 40] (by decide +kernel) (by decide +kernel)
set_option maxRecDepth 20000 in
theorem gX0_bestState_X0_isPlace : GoodIn wsX0_bestState (wsV RX0 86 RX0 yX0_isPlace wsX0_isPlace) := goodIn_app (goodIn_of _ (by decide +kernel)) ggX0_bestState_X0_isPlace
set_option maxRecDepth 20000 in
theorem ggX0_bestState_X0_fillBest : GoodIn wsX0_bestState wsX0_fillBest := goodIn_r _ [11, 12, 13, 14, 1, 2, 15, 16, 17, 18, 6, 19, 20, 21, 22, 23, 24, 25, 30, 31, 32, 33, 34, 35, 36, 37, 38, 39, 40] (by decide +kernel) (by decide +kernel)
set_option maxRecDepth 20000 in
theorem gX0_bestState_X0_fillBest : GoodIn wsX0_bestState (wsV RX0 79 RX0 yX0_fillBest wsX0_fillBest) := goodIn_app (goodIn_of _ (by decide +kernel)) ggX0_bestState_X0_fillBest
set_option maxRecDepth 20000 in
theorem ggX0_bestState_X0_lowestBestAtLast : GoodIn wsX0_bestState wsX0_lowestBestAtLast := goodIn_r _ [29, 12, 13, 1, 30, 31, 32, 33, 34, 35, 36, 37, 38, 39, 40] (by decide +kernel) (by decide +kernel)
set_option maxRecDepth 20000 in
theorem gX0_bestState_X0_lowestBestAtLast : GoodIn wsX0_bestState (wsV RX0 82 RX0 yX0_lowestBestAtLast wsX0_lowestBestAtLast) := goodIn_app (goodIn_of _ (by decide +kernel)) ggX0_bestState_X0_lowestBestAtLast
theorem dX0_bestState_0 : decode cX0_bestState 0 = .ok (.aload_n 0, 1) := by decide +kernel
theorem dX0_bestState_1 : decode cX0_bestState 1 = .ok (.iload_n 1, 1) := by decide +kernel
theorem dX0_bestState_2 : decode cX0_bestState 2 = .ok (.invokevirtual 86, 3) := by decide +kernel
theorem dX0_bestState_5 : decode cX0_bestState 5 = .ok (.ifCond .ne 5, 3) := by decide +kernel
theorem dX0_bestState_8 : decode cX0_bestState 8 = .ok (.iconst (-1), 1) := by decide +kernel
theorem dX0_bestState_9 : decode cX0_bestState 9 = .ok (.ireturn, 1) := by decide +kernel
theorem dX0_bestState_10 : decode cX0_bestState 10 = .ok (.aload_n 0, 1) := by decide +kernel
theorem dX0_bestState_11 : decode cX0_bestState 11 = .ok (.invokevirtual 79, 3) := by decide +kernel
theorem dX0_bestState_14 : decode cX0_bestState 14 = .ok (.aload_n 0, 1) := by decide +kernel
theorem dX0_bestState_15 : decode cX0_bestState 15 = .ok (.invokevirtual 82, 3) := by decide +kernel
theorem dX0_bestState_18 : decode cX0_bestState 18 = .ok (.istore_n 2, 1) := by decide +kernel
theorem dX0_bestState_19 : decode cX0_bestState 19 = .ok (.aload_n 0, 1) := by decide +kernel
theorem dX0_bestState_20 : decode cX0_bestState 20 = .ok (.getfield 13, 3) := by decide +kernel
theorem dX0_bestState_23 : decode cX0_bestState 23 = .ok (.iconst 1, 1) := by decide +kernel
theorem dX0_bestState_24 : decode cX0_bestState 24 = .ok (.isub, 1) := by decide +kernel
theorem dX0_bestState_25 : decode cX0_bestState 25 = .ok (.istore_n 3, 1) := by decide +kernel
theorem dX0_bestState_26 : decode cX0_bestState 26 = .ok (.iload_n 3, 1) := by decide +kernel
theorem dX0_bestState_27 : decode cX0_bestState 27 = .ok (.iload_n 1, 1) := by decide +kernel
theorem dX0_bestState_28 : decode cX0_bestState 28 = .ok (.if_icmp .le 18, 3) := by decide +kernel
theorem dX0_bestState_31 : decode cX0_bestState 31 = .ok (.aload_n 0, 1) := by decide +kernel
theorem dX0_bestState_32 : decode cX0_bestState 32 = .ok (.getfield 43, 3) := by decide +kernel
theorem dX0_bestState_35 : decode cX0_bestState 35 = .ok (.iload_n 3, 1) := by decide +kernel
theorem dX0_bestState_36 : decode cX0_bestState 36 = .ok (.aaload, 1) := by decide +kernel
theorem dX0_bestState_37 : decode cX0_bestState 37 = .ok (.iload_n 2, 1) := by decide +kernel
theorem dX0_bestState_38 : decode cX0_bestState 38 = .ok (.iaload, 1) := by decide +kernel
theorem dX0_bestState_39 : decode cX0_bestState 39 = .ok (.istore_n 2, 1) := by decide +kernel
theorem dX0_bestState_40 : decode cX0_bestState 40 = .ok (.iinc 3 (-1), 3) := by decide +kernel
theorem dX0_bestState_43 : decode cX0_bestState 43 = .ok (.goto (-17), 3) := by decide +kernel
theorem dX0_bestState_46 : decode cX0_bestState 46 = .ok (.iload_n 2, 1) := by decide +kernel
theorem dX0_bestState_47 : decode cX0_bestState 47 = .ok (.ireturn, 1) := by decide +kernel
set_option maxRecDepth 20000 in
theorem ggX0_share_X0_refuseWrongPlace : GoodIn wsX0_share wsX0_refuseWrongPlace := goodIn_ca (goodIn_ca (goodIn_r _ [9, 10, 11, 12, 13, 14, 15, 16, 8, 17, 18, 19, 20, 21, 22, 23, 52, 53, 54, 55, 56, 57, 58, 59, 60, 61, 62] (by decide +kernel) (by decide +kernel)) (goodIn_sub (fun _ h => List.mem_cons_of_mem _ (List.mem_append_left _ (List.mem_append_right _ h))) (by decide +kernel))) (goodIn_sub (fun _ h => List.mem_cons_of_mem _ (List.mem_append_right _ h)) (by decide +kernel))
set_option maxRecDepth 20000 in
theorem gX0_share_X0_refuseWrongPlace : GoodIn wsX0_share (wsV RX0 65 RX0 yX0_refuseWrongPlace wsX0_refuseWrongPlace) := goodIn_app (goodIn_of _ (by decide +kernel)) ggX0_share_X0_refuseWrongPlace
set_option maxRecDepth 20000 in
theorem ggX0_share_X0_fillForward : GoodIn wsX0_share wsX0_fillForward := goodIn_r _ [27, 18, 23, 28, 3, 29, 30, 31, 8, 32, 33, 34, 35, 36, 37, 38, 39, 52, 53, 54, 55, 56, 57, 58, 59, 60, 61, 62] (by decide +kernel) (by decide +kernel)
set_option maxRecDepth 20000 in
theorem gX0_share_X0_fillForward : GoodIn wsX0_share (wsV RX0 69 RX0 yX0_fillForward wsX0_fillForward) := goodIn_app (goodIn_of _ (by decide +kernel)) ggX0_share_X0_fillForward
set_option maxRecDepth 20000 in
theorem ggX0_share_X0_sumAtLast : GoodIn wsX0_share wsX0_sumAtLast := goodIn_r _ [43, 23, 3, 18, 52, 53, 54, 55, 56, 57, 58, 59, 60, 61, 62] (by decide +kernel) (by decide +kernel)
set_option maxRecDepth 20000 in
theorem gX0_share_X0_sumAtLast : GoodIn wsX0_share (wsV RX0 75 RX0 yX0_sumAtLast wsX0_sumAtLast) := goodIn_app (goodIn_of _ (by decide +kernel)) ggX0_share_X0_sumAtLast
set_option maxRecDepth 20000 in
theorem ggX0_share_X0_fillBackward : GoodIn wsX0_share wsX0_fillBackward := goodIn_r _ [47, 18, 23, 4, 48, 49, 50, 8, 51, 33, 34, 35, 36, 37, 38, 39, 52, 53, 54, 55, 56, 57, 58, 59, 60, 61, 62] (by decide +kernel) (by decide +kernel)
set_option maxRecDepth 20000 in
theorem gX0_share_X0_fillBackward : GoodIn wsX0_share (wsV RX0 72 RX0 yX0_fillBackward wsX0_fillBackward) := goodIn_app (goodIn_of _ (by decide +kernel)) ggX0_share_X0_fillBackward
theorem dX0_share_0 : decode cX0_share 0 = .ok (.aload_n 0, 1) := by decide +kernel
theorem dX0_share_1 : decode cX0_share 1 = .ok (.iload_n 1, 1) := by decide +kernel
theorem dX0_share_2 : decode cX0_share 2 = .ok (.iload_n 2, 1) := by decide +kernel
theorem dX0_share_3 : decode cX0_share 3 = .ok (.invokevirtual 65, 3) := by decide +kernel
theorem dX0_share_6 : decode cX0_share 6 = .ok (.aload_n 0, 1) := by decide +kernel
theorem dX0_share_7 : decode cX0_share 7 = .ok (.invokevirtual 69, 3) := by decide +kernel
theorem dX0_share_10 : decode cX0_share 10 = .ok (.aload_n 0, 1) := by decide +kernel
theorem dX0_share_11 : decode cX0_share 11 = .ok (.invokevirtual 75, 3) := by decide +kernel
theorem dX0_share_14 : decode cX0_share 14 = .ok (.dstore_n 3, 1) := by decide +kernel
theorem dX0_share_15 : decode cX0_share 15 = .ok (.dload_n 3, 1) := by decide +kernel
theorem dX0_share_16 : decode cX0_share 16 = .ok (.dconst 0, 1) := by decide +kernel
theorem dX0_share_17 : decode cX0_share 17 = .ok (.dcmp .l, 1) := by decide +kernel
theorem dX0_share_18 : decode cX0_share 18 = .ok (.ifCond .ne 13, 3) := by decide +kernel
theorem dX0_share_21 : decode cX0_share 21 = .ok (.new 89, 3) := by decide +kernel
theorem dX0_share_24 : decode cX0_share 24 = .ok (.dup, 1) := by decide +kernel
theorem dX0_share_25 : decode cX0_share 25 = .ok (.ldc 91, 2) := by decide +kernel
theorem dX0_share_27 : decode cX0_share 27 = .ok (.invokespecial 93, 3) := by decide +kernel
theorem dX0_share_30 : decode cX0_share 30 = .ok (.athrow, 1) := by decide +kernel
theorem dX0_share_31 : decode cX0_share 31 = .ok (.aload_n 0, 1) := by decide +kernel
theorem dX0_share_32 : decode cX0_share 32 = .ok (.invokevirtual 72, 3) := by decide +kernel
theorem dX0_share_35 : decode cX0_share 35 = .ok (.aload_n 0, 1) := by decide +kernel
theorem dX0_share_36 : decode cX0_share 36 = .ok (.getfield 32, 3) := by decide +kernel
theorem dX0_share_39 : decode cX0_share 39 = .ok (.iload_n 1, 1) := by decide +kernel
theorem dX0_share_40 : decode cX0_share 40 = .ok (.aaload, 1) := by decide +kernel
theorem dX0_share_41 : decode cX0_share 41 = .ok (.iload_n 2, 1) := by decide +kernel
theorem dX0_share_42 : decode cX0_share 42 = .ok (.daload, 1) := by decide +kernel
theorem dX0_share_43 : decode cX0_share 43 = .ok (.aload_n 0, 1) := by decide +kernel
theorem dX0_share_44 : decode cX0_share 44 = .ok (.getfield 35, 3) := by decide +kernel
theorem dX0_share_47 : decode cX0_share 47 = .ok (.iload_n 1, 1) := by decide +kernel
theorem dX0_share_48 : decode cX0_share 48 = .ok (.aaload, 1) := by decide +kernel
theorem dX0_share_49 : decode cX0_share 49 = .ok (.iload_n 2, 1) := by decide +kernel
theorem dX0_share_50 : decode cX0_share 50 = .ok (.daload, 1) := by decide +kernel
theorem dX0_share_51 : decode cX0_share 51 = .ok (.dmul, 1) := by decide +kernel
theorem dX0_share_52 : decode cX0_share 52 = .ok (.dload_n 3, 1) := by decide +kernel
theorem dX0_share_53 : decode cX0_share 53 = .ok (.ddiv, 1) := by decide +kernel
theorem dX0_share_54 : decode cX0_share 54 = .ok (.dreturn, 1) := by decide +kernel
set_option maxRecDepth 20000 in
theorem ggX0_possible_X0_fillCounts : GoodIn wsX0_possible wsX0_fillCounts := goodIn_r _ [8, 1, 2, 3, 9, 10, 11, 7, 12, 13, 14, 15, 16, 17, 18, 19, 20, 21, 22, 23, 24, 25, 26, 27, 28, 29, 30, 31] (by decide +kernel) (by decide +kernel)
set_option maxRecDepth 20000 in
theorem gX0_possible_X0_fillCounts : GoodIn wsX0_possible (wsV RX0 96 RX0 yX0_fillCounts wsX0_fillCounts) := goodIn_app (goodIn_of _ (by decide +kernel)) ggX0_possible_X0_fillCounts
theorem dX0_possible_0 : decode cX0_possible 0 = .ok (.aload_n 0, 1) := by decide +kernel
theorem dX0_possible_1 : decode cX0_possible 1 = .ok (.getfield 13, 3) := by decide +kernel
theorem dX0_possible_4 : decode cX0_possible 4 = .ok (.ifCond .ne 5, 3) := by decide +kernel
theorem dX0_possible_7 : decode cX0_possible 7 = .ok (.lconst 1, 1) := by decide +kernel
theorem dX0_possible_8 : decode cX0_possible 8 = .ok (.lreturn, 1) := by decide +kernel
theorem dX0_possible_9 : decode cX0_possible 9 = .ok (.aload_n 0, 1) := by decide +kernel
theorem dX0_possible_10 : decode cX0_possible 10 = .ok (.invokevirtual 96, 3) := by decide +kernel
theorem dX0_possible_13 : decode cX0_possible 13 = .ok (.lconst 0, 1) := by decide +kernel
theorem dX0_possible_14 : decode cX0_possible 14 = .ok (.lstore_n 1, 1) := by decide +kernel
theorem dX0_possible_15 : decode cX0_possible 15 = .ok (.iconst 0, 1) := by decide +kernel
theorem dX0_possible_16 : decode cX0_possible 16 = .ok (.istore_n 3, 1) := by decide +kernel
theorem dX0_possible_17 : decode cX0_possible 17 = .ok (.iload_n 3, 1) := by decide +kernel
theorem dX0_possible_18 : decode cX0_possible 18 = .ok (.aload_n 0, 1) := by decide +kernel
theorem dX0_possible_19 : decode cX0_possible 19 = .ok (.getfield 7, 3) := by decide +kernel
theorem dX0_possible_22 : decode cX0_possible 22 = .ok (.if_icmp .ge 25, 3) := by decide +kernel
theorem dX0_possible_25 : decode cX0_possible 25 = .ok (.lload_n 1, 1) := by decide +kernel
theorem dX0_possible_26 : decode cX0_possible 26 = .ok (.aload_n 0, 1) := by decide +kernel
theorem dX0_possible_27 : decode cX0_possible 27 = .ok (.getfield 48, 3) := by decide +kernel
theorem dX0_possible_30 : decode cX0_possible 30 = .ok (.aload_n 0, 1) := by decide +kernel
theorem dX0_possible_31 : decode cX0_possible 31 = .ok (.getfield 13, 3) := by decide +kernel
theorem dX0_possible_34 : decode cX0_possible 34 = .ok (.iconst 1, 1) := by decide +kernel
theorem dX0_possible_35 : decode cX0_possible 35 = .ok (.isub, 1) := by decide +kernel
theorem dX0_possible_36 : decode cX0_possible 36 = .ok (.aaload, 1) := by decide +kernel
theorem dX0_possible_37 : decode cX0_possible 37 = .ok (.iload_n 3, 1) := by decide +kernel
theorem dX0_possible_38 : decode cX0_possible 38 = .ok (.laload, 1) := by decide +kernel
theorem dX0_possible_39 : decode cX0_possible 39 = .ok (.ladd, 1) := by decide +kernel
theorem dX0_possible_40 : decode cX0_possible 40 = .ok (.lstore_n 1, 1) := by decide +kernel
theorem dX0_possible_41 : decode cX0_possible 41 = .ok (.iinc 3 1, 3) := by decide +kernel
theorem dX0_possible_44 : decode cX0_possible 44 = .ok (.goto (-27), 3) := by decide +kernel
theorem dX0_possible_47 : decode cX0_possible 47 = .ok (.lload_n 1, 1) := by decide +kernel
theorem dX0_possible_48 : decode cX0_possible 48 = .ok (.lreturn, 1) := by decide +kernel
theorem dX0_isState_0 : decode cX0_isState 0 = .ok (.iload_n 1, 1) := by decide +kernel
theorem dX0_isState_1 : decode cX0_isState 1 = .ok (.ifCond .lt 15, 3) := by decide +kernel
theorem dX0_isState_4 : decode cX0_isState 4 = .ok (.iload_n 1, 1) := by decide +kernel
theorem dX0_isState_5 : decode cX0_isState 5 = .ok (.aload_n 0, 1) := by decide +kernel
theorem dX0_isState_6 : decode cX0_isState 6 = .ok (.getfield 7, 3) := by decide +kernel
theorem dX0_isState_9 : decode cX0_isState 9 = .ok (.if_icmp .ge 7, 3) := by decide +kernel
theorem dX0_isState_12 : decode cX0_isState 12 = .ok (.iconst 1, 1) := by decide +kernel
theorem dX0_isState_13 : decode cX0_isState 13 = .ok (.goto 4, 3) := by decide +kernel
theorem dX0_isState_16 : decode cX0_isState 16 = .ok (.iconst 0, 1) := by decide +kernel
theorem dX0_isState_17 : decode cX0_isState 17 = .ok (.ireturn, 1) := by decide +kernel
theorem dX0_isPlace_0 : decode cX0_isPlace 0 = .ok (.iload_n 1, 1) := by decide +kernel
theorem dX0_isPlace_1 : decode cX0_isPlace 1 = .ok (.ifCond .lt 15, 3) := by decide +kernel
theorem dX0_isPlace_4 : decode cX0_isPlace 4 = .ok (.iload_n 1, 1) := by decide +kernel
theorem dX0_isPlace_5 : decode cX0_isPlace 5 = .ok (.aload_n 0, 1) := by decide +kernel
theorem dX0_isPlace_6 : decode cX0_isPlace 6 = .ok (.getfield 13, 3) := by decide +kernel
theorem dX0_isPlace_9 : decode cX0_isPlace 9 = .ok (.if_icmp .ge 7, 3) := by decide +kernel
theorem dX0_isPlace_12 : decode cX0_isPlace 12 = .ok (.iconst 1, 1) := by decide +kernel
theorem dX0_isPlace_13 : decode cX0_isPlace 13 = .ok (.goto 4, 3) := by decide +kernel
theorem dX0_isPlace_16 : decode cX0_isPlace 16 = .ok (.iconst 0, 1) := by decide +kernel
theorem dX0_isPlace_17 : decode cX0_isPlace 17 = .ok (.ireturn, 1) := by decide +kernel
theorem dX0_isSymbol_0 : decode cX0_isSymbol 0 = .ok (.iload_n 0, 1) := by decide +kernel
theorem dX0_isSymbol_1 : decode cX0_isSymbol 1 = .ok (.ifCond .lt 12, 3) := by decide +kernel
theorem dX0_isSymbol_4 : decode cX0_isSymbol 4 = .ok (.iload_n 0, 1) := by decide +kernel
theorem dX0_isSymbol_5 : decode cX0_isSymbol 5 = .ok (.iconst 4, 1) := by decide +kernel
theorem dX0_isSymbol_6 : decode cX0_isSymbol 6 = .ok (.if_icmp .ge 7, 3) := by decide +kernel
theorem dX0_isSymbol_9 : decode cX0_isSymbol 9 = .ok (.iconst 1, 1) := by decide +kernel
theorem dX0_isSymbol_10 : decode cX0_isSymbol 10 = .ok (.goto 4, 3) := by decide +kernel
theorem dX0_isSymbol_13 : decode cX0_isSymbol 13 = .ok (.iconst 0, 1) := by decide +kernel
theorem dX0_isSymbol_14 : decode cX0_isSymbol 14 = .ok (.ireturn, 1) := by decide +kernel
theorem dX0_isWeight_0 : decode cX0_isWeight 0 = .ok (.dload_n 0, 1) := by decide +kernel
theorem dX0_isWeight_1 : decode cX0_isWeight 1 = .ok (.dconst 0, 1) := by decide +kernel
theorem dX0_isWeight_2 : decode cX0_isWeight 2 = .ok (.dcmp .l, 1) := by decide +kernel
theorem dX0_isWeight_3 : decode cX0_isWeight 3 = .ok (.ifCond .lt 13, 3) := by decide +kernel
theorem dX0_isWeight_6 : decode cX0_isWeight 6 = .ok (.dload_n 0, 1) := by decide +kernel
theorem dX0_isWeight_7 : decode cX0_isWeight 7 = .ok (.dconst 1, 1) := by decide +kernel
theorem dX0_isWeight_8 : decode cX0_isWeight 8 = .ok (.dcmp .g, 1) := by decide +kernel
theorem dX0_isWeight_9 : decode cX0_isWeight 9 = .ok (.ifCond .gt 7, 3) := by decide +kernel
theorem dX0_isWeight_12 : decode cX0_isWeight 12 = .ok (.iconst 1, 1) := by decide +kernel
theorem dX0_isWeight_13 : decode cX0_isWeight 13 = .ok (.goto 4, 3) := by decide +kernel
theorem dX0_isWeight_16 : decode cX0_isWeight 16 = .ok (.iconst 0, 1) := by decide +kernel
theorem dX0_isWeight_17 : decode cX0_isWeight 17 = .ok (.ireturn, 1) := by decide +kernel
set_option maxRecDepth 20000 in
theorem ggX0_refuseWrongPlace_X0_isPlace : GoodIn wsX0_refuseWrongPlace wsX0_isPlace := goodIn_r _ [9, 10, 16, 17, 18, 19, 20, 21, 22, 23, 24, 25, 26] (by decide +kernel) (by decide +kernel)
set_option maxRecDepth 20000 in
theorem gX0_refuseWrongPlace_X0_isPlace : GoodIn wsX0_refuseWrongPlace (wsV RX0 86 RX0 yX0_isPlace wsX0_isPlace) := goodIn_app (goodIn_of _ (by decide +kernel)) ggX0_refuseWrongPlace_X0_isPlace
set_option maxRecDepth 20000 in
theorem ggX0_refuseWrongPlace_X0_isState : GoodIn wsX0_refuseWrongPlace wsX0_isState := goodIn_r _ [14, 15, 16, 17, 18, 19, 20, 21, 22, 23, 24, 25, 26] (by decide +kernel) (by decide +kernel)
set_option maxRecDepth 20000 in
theorem gX0_refuseWrongPlace_X0_isState : GoodIn wsX0_refuseWrongPlace (wsV RX0 54 RX0 yX0_isState wsX0_isState) := goodIn_app (goodIn_of _ (by decide +kernel)) ggX0_refuseWrongPlace_X0_isState
theorem dX0_refuseWrongPlace_0 : decode cX0_refuseWrongPlace 0 = .ok (.aload_n 0, 1) := by decide +kernel
theorem dX0_refuseWrongPlace_1 : decode cX0_refuseWrongPlace 1 = .ok (.iload_n 1, 1) := by decide +kernel
theorem dX0_refuseWrongPlace_2 : decode cX0_refuseWrongPlace 2 = .ok (.invokevirtual 86, 3) := by decide +kernel
theorem dX0_refuseWrongPlace_5 : decode cX0_refuseWrongPlace 5 = .ok (.ifCond .ne 13, 3) := by decide +kernel
theorem dX0_refuseWrongPlace_8 : decode cX0_refuseWrongPlace 8 = .ok (.new 99, 3) := by decide +kernel
theorem dX0_refuseWrongPlace_11 : decode cX0_refuseWrongPlace 11 = .ok (.dup, 1) := by decide +kernel
theorem dX0_refuseWrongPlace_12 : decode cX0_refuseWrongPlace 12 = .ok (.ldc 101, 2) := by decide +kernel
theorem dX0_refuseWrongPlace_14 : decode cX0_refuseWrongPlace 14 = .ok (.invokespecial 103, 3) := by decide +kernel
theorem dX0_refuseWrongPlace_17 : decode cX0_refuseWrongPlace 17 = .ok (.athrow, 1) := by decide +kernel
theorem dX0_refuseWrongPlace_18 : decode cX0_refuseWrongPlace 18 = .ok (.aload_n 0, 1) := by decide +kernel
theorem dX0_refuseWrongPlace_19 : decode cX0_refuseWrongPlace 19 = .ok (.iload_n 2, 1) := by decide +kernel
theorem dX0_refuseWrongPlace_20 : decode cX0_refuseWrongPlace 20 = .ok (.invokevirtual 54, 3) := by decide +kernel
theorem dX0_refuseWrongPlace_23 : decode cX0_refuseWrongPlace 23 = .ok (.ifCond .ne 13, 3) := by decide +kernel
theorem dX0_refuseWrongPlace_26 : decode cX0_refuseWrongPlace 26 = .ok (.new 104, 3) := by decide +kernel
theorem dX0_refuseWrongPlace_29 : decode cX0_refuseWrongPlace 29 = .ok (.dup, 1) := by decide +kernel
theorem dX0_refuseWrongPlace_30 : decode cX0_refuseWrongPlace 30 = .ok (.ldc 106, 2) := by decide +kernel
theorem dX0_refuseWrongPlace_32 : decode cX0_refuseWrongPlace 32 = .ok (.invokespecial 108, 3) := by decide +kernel
theorem dX0_refuseWrongPlace_35 : decode cX0_refuseWrongPlace 35 = .ok (.athrow, 1) := by decide +kernel
theorem dX0_refuseWrongPlace_36 : decode cX0_refuseWrongPlace 36 = .ok (.return_, 1) := by decide +kernel
theorem dX0_clearWeights_0 : decode cX0_clearWeights 0 = .ok (.iconst 0, 1) := by decide +kernel
theorem dX0_clearWeights_1 : decode cX0_clearWeights 1 = .ok (.istore_n 1, 1) := by decide +kernel
theorem dX0_clearWeights_2 : decode cX0_clearWeights 2 = .ok (.iload_n 1, 1) := by decide +kernel
theorem dX0_clearWeights_3 : decode cX0_clearWeights 3 = .ok (.bipush 6, 2) := by decide +kernel
theorem dX0_clearWeights_5 : decode cX0_clearWeights 5 = .ok (.if_icmp .ge 61, 3) := by decide +kernel
theorem dX0_clearWeights_8 : decode cX0_clearWeights 8 = .ok (.aload_n 0, 1) := by decide +kernel
theorem dX0_clearWeights_9 : decode cX0_clearWeights 9 = .ok (.getfield 20, 3) := by decide +kernel
theorem dX0_clearWeights_12 : decode cX0_clearWeights 12 = .ok (.iload_n 1, 1) := by decide +kernel
theorem dX0_clearWeights_13 : decode cX0_clearWeights 13 = .ok (.dconst 0, 1) := by decide +kernel
theorem dX0_clearWeights_14 : decode cX0_clearWeights 14 = .ok (.dastore, 1) := by decide +kernel
theorem dX0_clearWeights_15 : decode cX0_clearWeights 15 = .ok (.iconst 0, 1) := by decide +kernel
theorem dX0_clearWeights_16 : decode cX0_clearWeights 16 = .ok (.istore_n 2, 1) := by decide +kernel
theorem dX0_clearWeights_17 : decode cX0_clearWeights 17 = .ok (.iload_n 2, 1) := by decide +kernel
theorem dX0_clearWeights_18 : decode cX0_clearWeights 18 = .ok (.bipush 6, 2) := by decide +kernel
theorem dX0_clearWeights_20 : decode cX0_clearWeights 20 = .ok (.if_icmp .ge 18, 3) := by decide +kernel
theorem dX0_clearWeights_23 : decode cX0_clearWeights 23 = .ok (.aload_n 0, 1) := by decide +kernel
theorem dX0_clearWeights_24 : decode cX0_clearWeights 24 = .ok (.getfield 26, 3) := by decide +kernel
theorem dX0_clearWeights_27 : decode cX0_clearWeights 27 = .ok (.iload_n 1, 1) := by decide +kernel
theorem dX0_clearWeights_28 : decode cX0_clearWeights 28 = .ok (.aaload, 1) := by decide +kernel
theorem dX0_clearWeights_29 : decode cX0_clearWeights 29 = .ok (.iload_n 2, 1) := by decide +kernel
theorem dX0_clearWeights_30 : decode cX0_clearWeights 30 = .ok (.dconst 0, 1) := by decide +kernel
theorem dX0_clearWeights_31 : decode cX0_clearWeights 31 = .ok (.dastore, 1) := by decide +kernel
theorem dX0_clearWeights_32 : decode cX0_clearWeights 32 = .ok (.iinc 2 1, 3) := by decide +kernel
theorem dX0_clearWeights_35 : decode cX0_clearWeights 35 = .ok (.goto (-18), 3) := by decide +kernel
theorem dX0_clearWeights_38 : decode cX0_clearWeights 38 = .ok (.iconst 0, 1) := by decide +kernel
theorem dX0_clearWeights_39 : decode cX0_clearWeights 39 = .ok (.istore_n 2, 1) := by decide +kernel
theorem dX0_clearWeights_40 : decode cX0_clearWeights 40 = .ok (.iload_n 2, 1) := by decide +kernel
theorem dX0_clearWeights_41 : decode cX0_clearWeights 41 = .ok (.iconst 4, 1) := by decide +kernel
theorem dX0_clearWeights_42 : decode cX0_clearWeights 42 = .ok (.if_icmp .ge 18, 3) := by decide +kernel
theorem dX0_clearWeights_45 : decode cX0_clearWeights 45 = .ok (.aload_n 0, 1) := by decide +kernel
theorem dX0_clearWeights_46 : decode cX0_clearWeights 46 = .ok (.getfield 29, 3) := by decide +kernel
theorem dX0_clearWeights_49 : decode cX0_clearWeights 49 = .ok (.iload_n 1, 1) := by decide +kernel
theorem dX0_clearWeights_50 : decode cX0_clearWeights 50 = .ok (.aaload, 1) := by decide +kernel
theorem dX0_clearWeights_51 : decode cX0_clearWeights 51 = .ok (.iload_n 2, 1) := by decide +kernel
theorem dX0_clearWeights_52 : decode cX0_clearWeights 52 = .ok (.dconst 0, 1) := by decide +kernel
theorem dX0_clearWeights_53 : decode cX0_clearWeights 53 = .ok (.dastore, 1) := by decide +kernel
theorem dX0_clearWeights_54 : decode cX0_clearWeights 54 = .ok (.iinc 2 1, 3) := by decide +kernel
theorem dX0_clearWeights_57 : decode cX0_clearWeights 57 = .ok (.goto (-17), 3) := by decide +kernel
theorem dX0_clearWeights_60 : decode cX0_clearWeights 60 = .ok (.iinc 1 1, 3) := by decide +kernel
theorem dX0_clearWeights_63 : decode cX0_clearWeights 63 = .ok (.goto (-61), 3) := by decide +kernel
theorem dX0_clearWeights_66 : decode cX0_clearWeights 66 = .ok (.return_, 1) := by decide +kernel
theorem dX0_weightShown_0 : decode cX0_weightShown 0 = .ok (.aload_n 0, 1) := by decide +kernel
theorem dX0_weightShown_1 : decode cX0_weightShown 1 = .ok (.getfield 29, 3) := by decide +kernel
theorem dX0_weightShown_4 : decode cX0_weightShown 4 = .ok (.iload_n 2, 1) := by decide +kernel
theorem dX0_weightShown_5 : decode cX0_weightShown 5 = .ok (.aaload, 1) := by decide +kernel
theorem dX0_weightShown_6 : decode cX0_weightShown 6 = .ok (.aload_n 0, 1) := by decide +kernel
theorem dX0_weightShown_7 : decode cX0_weightShown 7 = .ok (.getfield 16, 3) := by decide +kernel
theorem dX0_weightShown_10 : decode cX0_weightShown 10 = .ok (.iload_n 1, 1) := by decide +kernel
theorem dX0_weightShown_11 : decode cX0_weightShown 11 = .ok (.iaload, 1) := by decide +kernel
theorem dX0_weightShown_12 : decode cX0_weightShown 12 = .ok (.daload, 1) := by decide +kernel
theorem dX0_weightShown_13 : decode cX0_weightShown 13 = .ok (.dreturn, 1) := by decide +kernel
set_option maxRecDepth 20000 in
theorem ggX0_fillForward_X0_sumInto : GoodIn wsX0_fillForward wsX0_sumInto := goodIn_r _ [9, 2, 4, 10, 17, 18, 19, 20, 21, 22, 23, 24, 25, 26, 27] (by decide +kernel) (by decide +kernel)
set_option maxRecDepth 20000 in
theorem gX0_fillForward_X0_sumInto : GoodIn wsX0_fillForward (wsV RX0 109 RX0 yX0_sumInto wsX0_sumInto) := goodIn_app (goodIn_of _ (by decide +kernel)) ggX0_fillForward_X0_sumInto
set_option maxRecDepth 20000 in
theorem ggX0_fillForward_X0_weightShown : GoodIn wsX0_fillForward wsX0_weightShown := goodIn_r _ [14, 15, 16, 17, 18, 19, 20, 21, 22, 23, 24, 25, 26, 27] (by decide +kernel) (by decide +kernel)
set_option maxRecDepth 20000 in
theorem gX0_fillForward_X0_weightShown : GoodIn wsX0_fillForward (wsV RX0 113 RX0 yX0_weightShown wsX0_weightShown) := goodIn_app (goodIn_of _ (by decide +kernel)) ggX0_fillForward_X0_weightShown
theorem dX0_fillForward_0 : decode cX0_fillForward 0 = .ok (.iconst 0, 1) := by decide +kernel
theorem dX0_fillForward_1 : decode cX0_fillForward 1 = .ok (.istore_n 1, 1) := by decide +kernel
theorem dX0_fillForward_2 : decode cX0_fillForward 2 = .ok (.iload_n 1, 1) := by decide +kernel
theorem dX0_fillForward_3 : decode cX0_fillForward 3 = .ok (.aload_n 0, 1) := by decide +kernel
theorem dX0_fillForward_4 : decode cX0_fillForward 4 = .ok (.getfield 13, 3) := by decide +kernel
theorem dX0_fillForward_7 : decode cX0_fillForward 7 = .ok (.if_icmp .ge 61, 3) := by decide +kernel
theorem dX0_fillForward_10 : decode cX0_fillForward 10 = .ok (.iconst 0, 1) := by decide +kernel
theorem dX0_fillForward_11 : decode cX0_fillForward 11 = .ok (.istore_n 2, 1) := by decide +kernel
theorem dX0_fillForward_12 : decode cX0_fillForward 12 = .ok (.iload_n 2, 1) := by decide +kernel
theorem dX0_fillForward_13 : decode cX0_fillForward 13 = .ok (.aload_n 0, 1) := by decide +kernel
theorem dX0_fillForward_14 : decode cX0_fillForward 14 = .ok (.getfield 7, 3) := by decide +kernel
theorem dX0_fillForward_17 : decode cX0_fillForward 17 = .ok (.if_icmp .ge 45, 3) := by decide +kernel
theorem dX0_fillForward_20 : decode cX0_fillForward 20 = .ok (.iload_n 1, 1) := by decide +kernel
theorem dX0_fillForward_21 : decode cX0_fillForward 21 = .ok (.ifCond .ne 12, 3) := by decide +kernel
theorem dX0_fillForward_24 : decode cX0_fillForward 24 = .ok (.aload_n 0, 1) := by decide +kernel
theorem dX0_fillForward_25 : decode cX0_fillForward 25 = .ok (.getfield 20, 3) := by decide +kernel
theorem dX0_fillForward_28 : decode cX0_fillForward 28 = .ok (.iload_n 2, 1) := by decide +kernel
theorem dX0_fillForward_29 : decode cX0_fillForward 29 = .ok (.daload, 1) := by decide +kernel
theorem dX0_fillForward_30 : decode cX0_fillForward 30 = .ok (.goto 9, 3) := by decide +kernel
theorem dX0_fillForward_33 : decode cX0_fillForward 33 = .ok (.aload_n 0, 1) := by decide +kernel
theorem dX0_fillForward_34 : decode cX0_fillForward 34 = .ok (.iload_n 1, 1) := by decide +kernel
theorem dX0_fillForward_35 : decode cX0_fillForward 35 = .ok (.iload_n 2, 1) := by decide +kernel
theorem dX0_fillForward_36 : decode cX0_fillForward 36 = .ok (.invokevirtual 109, 3) := by decide +kernel
theorem dX0_fillForward_39 : decode cX0_fillForward 39 = .ok (.dstore_n 3, 1) := by decide +kernel
theorem dX0_fillForward_40 : decode cX0_fillForward 40 = .ok (.aload_n 0, 1) := by decide +kernel
theorem dX0_fillForward_41 : decode cX0_fillForward 41 = .ok (.getfield 32, 3) := by decide +kernel
theorem dX0_fillForward_44 : decode cX0_fillForward 44 = .ok (.iload_n 1, 1) := by decide +kernel
theorem dX0_fillForward_45 : decode cX0_fillForward 45 = .ok (.aaload, 1) := by decide +kernel
theorem dX0_fillForward_46 : decode cX0_fillForward 46 = .ok (.iload_n 2, 1) := by decide +kernel
theorem dX0_fillForward_47 : decode cX0_fillForward 47 = .ok (.dload_n 3, 1) := by decide +kernel
theorem dX0_fillForward_48 : decode cX0_fillForward 48 = .ok (.aload_n 0, 1) := by decide +kernel
theorem dX0_fillForward_49 : decode cX0_fillForward 49 = .ok (.iload_n 1, 1) := by decide +kernel
theorem dX0_fillForward_50 : decode cX0_fillForward 50 = .ok (.iload_n 2, 1) := by decide +kernel
theorem dX0_fillForward_51 : decode cX0_fillForward 51 = .ok (.invokevirtual 113, 3) := by decide +kernel
theorem dX0_fillForward_54 : decode cX0_fillForward 54 = .ok (.dmul, 1) := by decide +kernel
theorem dX0_fillForward_55 : decode cX0_fillForward 55 = .ok (.dastore, 1) := by decide +kernel
theorem dX0_fillForward_56 : decode cX0_fillForward 56 = .ok (.iinc 2 1, 3) := by decide +kernel
theorem dX0_fillForward_59 : decode cX0_fillForward 59 = .ok (.goto (-47), 3) := by decide +kernel
theorem dX0_fillForward_62 : decode cX0_fillForward 62 = .ok (.iinc 1 1, 3) := by decide +kernel
theorem dX0_fillForward_65 : decode cX0_fillForward 65 = .ok (.goto (-63), 3) := by decide +kernel
theorem dX0_fillForward_68 : decode cX0_fillForward 68 = .ok (.return_, 1) := by decide +kernel
theorem dX0_sumInto_0 : decode cX0_sumInto 0 = .ok (.dconst 0, 1) := by decide +kernel
theorem dX0_sumInto_1 : decode cX0_sumInto 1 = .ok (.dstore_n 3, 1) := by decide +kernel
theorem dX0_sumInto_2 : decode cX0_sumInto 2 = .ok (.iconst 0, 1) := by decide +kernel
theorem dX0_sumInto_3 : decode cX0_sumInto 3 = .ok (.istore 5, 2) := by decide +kernel
theorem dX0_sumInto_5 : decode cX0_sumInto 5 = .ok (.iload 5, 2) := by decide +kernel
theorem dX0_sumInto_7 : decode cX0_sumInto 7 = .ok (.aload_n 0, 1) := by decide +kernel
theorem dX0_sumInto_8 : decode cX0_sumInto 8 = .ok (.getfield 7, 3) := by decide +kernel
theorem dX0_sumInto_11 : decode cX0_sumInto 11 = .ok (.if_icmp .ge 33, 3) := by decide +kernel
theorem dX0_sumInto_14 : decode cX0_sumInto 14 = .ok (.dload_n 3, 1) := by decide +kernel
theorem dX0_sumInto_15 : decode cX0_sumInto 15 = .ok (.aload_n 0, 1) := by decide +kernel
theorem dX0_sumInto_16 : decode cX0_sumInto 16 = .ok (.getfield 32, 3) := by decide +kernel
theorem dX0_sumInto_19 : decode cX0_sumInto 19 = .ok (.iload_n 1, 1) := by decide +kernel
theorem dX0_sumInto_20 : decode cX0_sumInto 20 = .ok (.iconst 1, 1) := by decide +kernel
theorem dX0_sumInto_21 : decode cX0_sumInto 21 = .ok (.isub, 1) := by decide +kernel
theorem dX0_sumInto_22 : decode cX0_sumInto 22 = .ok (.aaload, 1) := by decide +kernel
theorem dX0_sumInto_23 : decode cX0_sumInto 23 = .ok (.iload 5, 2) := by decide +kernel
theorem dX0_sumInto_25 : decode cX0_sumInto 25 = .ok (.daload, 1) := by decide +kernel
theorem dX0_sumInto_26 : decode cX0_sumInto 26 = .ok (.aload_n 0, 1) := by decide +kernel
theorem dX0_sumInto_27 : decode cX0_sumInto 27 = .ok (.getfield 26, 3) := by decide +kernel
theorem dX0_sumInto_30 : decode cX0_sumInto 30 = .ok (.iload 5, 2) := by decide +kernel
theorem dX0_sumInto_32 : decode cX0_sumInto 32 = .ok (.aaload, 1) := by decide +kernel
theorem dX0_sumInto_33 : decode cX0_sumInto 33 = .ok (.iload_n 2, 1) := by decide +kernel
theorem dX0_sumInto_34 : decode cX0_sumInto 34 = .ok (.daload, 1) := by decide +kernel
theorem dX0_sumInto_35 : decode cX0_sumInto 35 = .ok (.dmul, 1) := by decide +kernel
theorem dX0_sumInto_36 : decode cX0_sumInto 36 = .ok (.dadd, 1) := by decide +kernel
theorem dX0_sumInto_37 : decode cX0_sumInto 37 = .ok (.dstore_n 3, 1) := by decide +kernel
theorem dX0_sumInto_38 : decode cX0_sumInto 38 = .ok (.iinc 5 1, 3) := by decide +kernel
theorem dX0_sumInto_41 : decode cX0_sumInto 41 = .ok (.goto (-36), 3) := by decide +kernel
theorem dX0_sumInto_44 : decode cX0_sumInto 44 = .ok (.dload_n 3, 1) := by decide +kernel
theorem dX0_sumInto_45 : decode cX0_sumInto 45 = .ok (.dreturn, 1) := by decide +kernel
theorem dX0_sumAtLast_0 : decode cX0_sumAtLast 0 = .ok (.dconst 0, 1) := by decide +kernel
theorem dX0_sumAtLast_1 : decode cX0_sumAtLast 1 = .ok (.dstore_n 1, 1) := by decide +kernel
theorem dX0_sumAtLast_2 : decode cX0_sumAtLast 2 = .ok (.iconst 0, 1) := by decide +kernel
theorem dX0_sumAtLast_3 : decode cX0_sumAtLast 3 = .ok (.istore_n 3, 1) := by decide +kernel
theorem dX0_sumAtLast_4 : decode cX0_sumAtLast 4 = .ok (.iload_n 3, 1) := by decide +kernel
theorem dX0_sumAtLast_5 : decode cX0_sumAtLast 5 = .ok (.aload_n 0, 1) := by decide +kernel
theorem dX0_sumAtLast_6 : decode cX0_sumAtLast 6 = .ok (.getfield 7, 3) := by decide +kernel
theorem dX0_sumAtLast_9 : decode cX0_sumAtLast 9 = .ok (.if_icmp .ge 25, 3) := by decide +kernel
theorem dX0_sumAtLast_12 : decode cX0_sumAtLast 12 = .ok (.dload_n 1, 1) := by decide +kernel
theorem dX0_sumAtLast_13 : decode cX0_sumAtLast 13 = .ok (.aload_n 0, 1) := by decide +kernel
theorem dX0_sumAtLast_14 : decode cX0_sumAtLast 14 = .ok (.getfield 32, 3) := by decide +kernel
theorem dX0_sumAtLast_17 : decode cX0_sumAtLast 17 = .ok (.aload_n 0, 1) := by decide +kernel
theorem dX0_sumAtLast_18 : decode cX0_sumAtLast 18 = .ok (.getfield 13, 3) := by decide +kernel
theorem dX0_sumAtLast_21 : decode cX0_sumAtLast 21 = .ok (.iconst 1, 1) := by decide +kernel
theorem dX0_sumAtLast_22 : decode cX0_sumAtLast 22 = .ok (.isub, 1) := by decide +kernel
theorem dX0_sumAtLast_23 : decode cX0_sumAtLast 23 = .ok (.aaload, 1) := by decide +kernel
theorem dX0_sumAtLast_24 : decode cX0_sumAtLast 24 = .ok (.iload_n 3, 1) := by decide +kernel
theorem dX0_sumAtLast_25 : decode cX0_sumAtLast 25 = .ok (.daload, 1) := by decide +kernel
theorem dX0_sumAtLast_26 : decode cX0_sumAtLast 26 = .ok (.dadd, 1) := by decide +kernel
theorem dX0_sumAtLast_27 : decode cX0_sumAtLast 27 = .ok (.dstore_n 1, 1) := by decide +kernel
theorem dX0_sumAtLast_28 : decode cX0_sumAtLast 28 = .ok (.iinc 3 1, 3) := by decide +kernel
theorem dX0_sumAtLast_31 : decode cX0_sumAtLast 31 = .ok (.goto (-27), 3) := by decide +kernel
theorem dX0_sumAtLast_34 : decode cX0_sumAtLast 34 = .ok (.dload_n 1, 1) := by decide +kernel
theorem dX0_sumAtLast_35 : decode cX0_sumAtLast 35 = .ok (.dreturn, 1) := by decide +kernel
set_option maxRecDepth 20000 in
theorem ggX0_fillBackward_X0_sumOutOf : GoodIn wsX0_fillBackward wsX0_sumOutOf := goodIn_r _ [8, 2, 9, 3, 10, 11, 12, 7, 13, 14, 15, 16, 17, 18, 19, 20, 21, 22, 23, 24, 25, 26] (by decide +kernel) (by decide +kernel)
set_option maxRecDepth 20000 in
theorem gX0_fillBackward_X0_sumOutOf : GoodIn wsX0_fillBackward (wsV RX0 116 RX0 yX0_sumOutOf wsX0_sumOutOf) := goodIn_app (goodIn_of _ (by decide +kernel)) ggX0_fillBackward_X0_sumOutOf
theorem dX0_fillBackward_0 : decode cX0_fillBackward 0 = .ok (.aload_n 0, 1) := by decide +kernel
theorem dX0_fillBackward_1 : decode cX0_fillBackward 1 = .ok (.getfield 13, 3) := by decide +kernel
theorem dX0_fillBackward_4 : decode cX0_fillBackward 4 = .ok (.iconst 1, 1) := by decide +kernel
theorem dX0_fillBackward_5 : decode cX0_fillBackward 5 = .ok (.isub, 1) := by decide +kernel
theorem dX0_fillBackward_6 : decode cX0_fillBackward 6 = .ok (.istore_n 1, 1) := by decide +kernel
theorem dX0_fillBackward_7 : decode cX0_fillBackward 7 = .ok (.iload_n 1, 1) := by decide +kernel
theorem dX0_fillBackward_8 : decode cX0_fillBackward 8 = .ok (.ifCond .lt 53, 3) := by decide +kernel
theorem dX0_fillBackward_11 : decode cX0_fillBackward 11 = .ok (.iconst 0, 1) := by decide +kernel
theorem dX0_fillBackward_12 : decode cX0_fillBackward 12 = .ok (.istore_n 2, 1) := by decide +kernel
theorem dX0_fillBackward_13 : decode cX0_fillBackward 13 = .ok (.iload_n 2, 1) := by decide +kernel
theorem dX0_fillBackward_14 : decode cX0_fillBackward 14 = .ok (.aload_n 0, 1) := by decide +kernel
theorem dX0_fillBackward_15 : decode cX0_fillBackward 15 = .ok (.getfield 7, 3) := by decide +kernel
theorem dX0_fillBackward_18 : decode cX0_fillBackward 18 = .ok (.if_icmp .ge 37, 3) := by decide +kernel
theorem dX0_fillBackward_21 : decode cX0_fillBackward 21 = .ok (.aload_n 0, 1) := by decide +kernel
theorem dX0_fillBackward_22 : decode cX0_fillBackward 22 = .ok (.getfield 35, 3) := by decide +kernel
theorem dX0_fillBackward_25 : decode cX0_fillBackward 25 = .ok (.iload_n 1, 1) := by decide +kernel
theorem dX0_fillBackward_26 : decode cX0_fillBackward 26 = .ok (.aaload, 1) := by decide +kernel
theorem dX0_fillBackward_27 : decode cX0_fillBackward 27 = .ok (.iload_n 2, 1) := by decide +kernel
theorem dX0_fillBackward_28 : decode cX0_fillBackward 28 = .ok (.iload_n 1, 1) := by decide +kernel
theorem dX0_fillBackward_29 : decode cX0_fillBackward 29 = .ok (.aload_n 0, 1) := by decide +kernel
theorem dX0_fillBackward_30 : decode cX0_fillBackward 30 = .ok (.getfield 13, 3) := by decide +kernel
theorem dX0_fillBackward_33 : decode cX0_fillBackward 33 = .ok (.iconst 1, 1) := by decide +kernel
theorem dX0_fillBackward_34 : decode cX0_fillBackward 34 = .ok (.isub, 1) := by decide +kernel
theorem dX0_fillBackward_35 : decode cX0_fillBackward 35 = .ok (.if_icmp .ne 7, 3) := by decide +kernel
theorem dX0_fillBackward_38 : decode cX0_fillBackward 38 = .ok (.dconst 1, 1) := by decide +kernel
theorem dX0_fillBackward_39 : decode cX0_fillBackward 39 = .ok (.goto 9, 3) := by decide +kernel
theorem dX0_fillBackward_42 : decode cX0_fillBackward 42 = .ok (.aload_n 0, 1) := by decide +kernel
theorem dX0_fillBackward_43 : decode cX0_fillBackward 43 = .ok (.iload_n 1, 1) := by decide +kernel
theorem dX0_fillBackward_44 : decode cX0_fillBackward 44 = .ok (.iload_n 2, 1) := by decide +kernel
theorem dX0_fillBackward_45 : decode cX0_fillBackward 45 = .ok (.invokevirtual 116, 3) := by decide +kernel
theorem dX0_fillBackward_48 : decode cX0_fillBackward 48 = .ok (.dastore, 1) := by decide +kernel
theorem dX0_fillBackward_49 : decode cX0_fillBackward 49 = .ok (.iinc 2 1, 3) := by decide +kernel
theorem dX0_fillBackward_52 : decode cX0_fillBackward 52 = .ok (.goto (-39), 3) := by decide +kernel
theorem dX0_fillBackward_55 : decode cX0_fillBackward 55 = .ok (.iinc 1 (-1), 3) := by decide +kernel
theorem dX0_fillBackward_58 : decode cX0_fillBackward 58 = .ok (.goto (-51), 3) := by decide +kernel
theorem dX0_fillBackward_61 : decode cX0_fillBackward 61 = .ok (.return_, 1) := by decide +kernel
set_option maxRecDepth 20000 in
theorem ggX0_sumOutOf_X0_weightShown : GoodIn wsX0_sumOutOf wsX0_weightShown := goodIn_r _ [8, 9, 10, 11, 12, 13, 14, 15, 16, 17, 18, 19, 20, 21] (by decide +kernel) (by decide +kernel)
set_option maxRecDepth 20000 in
theorem gX0_sumOutOf_X0_weightShown : GoodIn wsX0_sumOutOf (wsV RX0 113 RX0 yX0_weightShown wsX0_weightShown) := goodIn_app (goodIn_of _ (by decide +kernel)) ggX0_sumOutOf_X0_weightShown
theorem dX0_sumOutOf_0 : decode cX0_sumOutOf 0 = .ok (.dconst 0, 1) := by decide +kernel
theorem dX0_sumOutOf_1 : decode cX0_sumOutOf 1 = .ok (.dstore_n 3, 1) := by decide +kernel
theorem dX0_sumOutOf_2 : decode cX0_sumOutOf 2 = .ok (.iconst 0, 1) := by decide +kernel
theorem dX0_sumOutOf_3 : decode cX0_sumOutOf 3 = .ok (.istore 5, 2) := by decide +kernel
theorem dX0_sumOutOf_5 : decode cX0_sumOutOf 5 = .ok (.iload 5, 2) := by decide +kernel
theorem dX0_sumOutOf_7 : decode cX0_sumOutOf 7 = .ok (.aload_n 0, 1) := by decide +kernel
theorem dX0_sumOutOf_8 : decode cX0_sumOutOf 8 = .ok (.getfield 7, 3) := by decide +kernel
theorem dX0_sumOutOf_11 : decode cX0_sumOutOf 11 = .ok (.if_icmp .ge 43, 3) := by decide +kernel
theorem dX0_sumOutOf_14 : decode cX0_sumOutOf 14 = .ok (.dload_n 3, 1) := by decide +kernel
theorem dX0_sumOutOf_15 : decode cX0_sumOutOf 15 = .ok (.aload_n 0, 1) := by decide +kernel
theorem dX0_sumOutOf_16 : decode cX0_sumOutOf 16 = .ok (.getfield 26, 3) := by decide +kernel
theorem dX0_sumOutOf_19 : decode cX0_sumOutOf 19 = .ok (.iload_n 2, 1) := by decide +kernel
theorem dX0_sumOutOf_20 : decode cX0_sumOutOf 20 = .ok (.aaload, 1) := by decide +kernel
theorem dX0_sumOutOf_21 : decode cX0_sumOutOf 21 = .ok (.iload 5, 2) := by decide +kernel
theorem dX0_sumOutOf_23 : decode cX0_sumOutOf 23 = .ok (.daload, 1) := by decide +kernel
theorem dX0_sumOutOf_24 : decode cX0_sumOutOf 24 = .ok (.aload_n 0, 1) := by decide +kernel
theorem dX0_sumOutOf_25 : decode cX0_sumOutOf 25 = .ok (.iload_n 1, 1) := by decide +kernel
theorem dX0_sumOutOf_26 : decode cX0_sumOutOf 26 = .ok (.iconst 1, 1) := by decide +kernel
theorem dX0_sumOutOf_27 : decode cX0_sumOutOf 27 = .ok (.iadd, 1) := by decide +kernel
theorem dX0_sumOutOf_28 : decode cX0_sumOutOf 28 = .ok (.iload 5, 2) := by decide +kernel
theorem dX0_sumOutOf_30 : decode cX0_sumOutOf 30 = .ok (.invokevirtual 113, 3) := by decide +kernel
theorem dX0_sumOutOf_33 : decode cX0_sumOutOf 33 = .ok (.dmul, 1) := by decide +kernel
theorem dX0_sumOutOf_34 : decode cX0_sumOutOf 34 = .ok (.aload_n 0, 1) := by decide +kernel
theorem dX0_sumOutOf_35 : decode cX0_sumOutOf 35 = .ok (.getfield 35, 3) := by decide +kernel
theorem dX0_sumOutOf_38 : decode cX0_sumOutOf 38 = .ok (.iload_n 1, 1) := by decide +kernel
theorem dX0_sumOutOf_39 : decode cX0_sumOutOf 39 = .ok (.iconst 1, 1) := by decide +kernel
theorem dX0_sumOutOf_40 : decode cX0_sumOutOf 40 = .ok (.iadd, 1) := by decide +kernel
theorem dX0_sumOutOf_41 : decode cX0_sumOutOf 41 = .ok (.aaload, 1) := by decide +kernel
theorem dX0_sumOutOf_42 : decode cX0_sumOutOf 42 = .ok (.iload 5, 2) := by decide +kernel
theorem dX0_sumOutOf_44 : decode cX0_sumOutOf 44 = .ok (.daload, 1) := by decide +kernel
theorem dX0_sumOutOf_45 : decode cX0_sumOutOf 45 = .ok (.dmul, 1) := by decide +kernel
theorem dX0_sumOutOf_46 : decode cX0_sumOutOf 46 = .ok (.dadd, 1) := by decide +kernel
theorem dX0_sumOutOf_47 : decode cX0_sumOutOf 47 = .ok (.dstore_n 3, 1) := by decide +kernel
theorem dX0_sumOutOf_48 : decode cX0_sumOutOf 48 = .ok (.iinc 5 1, 3) := by decide +kernel
theorem dX0_sumOutOf_51 : decode cX0_sumOutOf 51 = .ok (.goto (-46), 3) := by decide +kernel
theorem dX0_sumOutOf_54 : decode cX0_sumOutOf 54 = .ok (.dload_n 3, 1) := by decide +kernel
theorem dX0_sumOutOf_55 : decode cX0_sumOutOf 55 = .ok (.dreturn, 1) := by decide +kernel
set_option maxRecDepth 20000 in
theorem ggX0_fillBest_X0_weightShown : GoodIn wsX0_fillBest wsX0_weightShown := goodIn_r _ [11, 12, 13, 18, 19, 20, 21, 22, 23, 24, 25, 26, 27, 28] (by decide +kernel) (by decide +kernel)
set_option maxRecDepth 20000 in
theorem gX0_fillBest_X0_weightShown : GoodIn wsX0_fillBest (wsV RX0 113 RX0 yX0_weightShown wsX0_weightShown) := goodIn_app (goodIn_of _ (by decide +kernel)) ggX0_fillBest_X0_weightShown
set_option maxRecDepth 20000 in
theorem ggX0_fillBest_X0_lowestBestInto : GoodIn wsX0_fillBest wsX0_lowestBestInto := goodIn_r _ [17, 2, 6, 1, 18, 19, 20, 21, 22, 23, 24, 25, 26, 27, 28] (by decide +kernel) (by decide +kernel)
set_option maxRecDepth 20000 in
theorem gX0_fillBest_X0_lowestBestInto : GoodIn wsX0_fillBest (wsV RX0 119 RX0 yX0_lowestBestInto wsX0_lowestBestInto) := goodIn_app (goodIn_of _ (by decide +kernel)) ggX0_fillBest_X0_lowestBestInto
theorem dX0_fillBest_0 : decode cX0_fillBest 0 = .ok (.iconst 0, 1) := by decide +kernel
theorem dX0_fillBest_1 : decode cX0_fillBest 1 = .ok (.istore_n 1, 1) := by decide +kernel
theorem dX0_fillBest_2 : decode cX0_fillBest 2 = .ok (.iload_n 1, 1) := by decide +kernel
theorem dX0_fillBest_3 : decode cX0_fillBest 3 = .ok (.aload_n 0, 1) := by decide +kernel
theorem dX0_fillBest_4 : decode cX0_fillBest 4 = .ok (.getfield 7, 3) := by decide +kernel
theorem dX0_fillBest_7 : decode cX0_fillBest 7 = .ok (.if_icmp .ge 30, 3) := by decide +kernel
theorem dX0_fillBest_10 : decode cX0_fillBest 10 = .ok (.aload_n 0, 1) := by decide +kernel
theorem dX0_fillBest_11 : decode cX0_fillBest 11 = .ok (.getfield 38, 3) := by decide +kernel
theorem dX0_fillBest_14 : decode cX0_fillBest 14 = .ok (.iconst 0, 1) := by decide +kernel
theorem dX0_fillBest_15 : decode cX0_fillBest 15 = .ok (.aaload, 1) := by decide +kernel
theorem dX0_fillBest_16 : decode cX0_fillBest 16 = .ok (.iload_n 1, 1) := by decide +kernel
theorem dX0_fillBest_17 : decode cX0_fillBest 17 = .ok (.aload_n 0, 1) := by decide +kernel
theorem dX0_fillBest_18 : decode cX0_fillBest 18 = .ok (.getfield 20, 3) := by decide +kernel
theorem dX0_fillBest_21 : decode cX0_fillBest 21 = .ok (.iload_n 1, 1) := by decide +kernel
theorem dX0_fillBest_22 : decode cX0_fillBest 22 = .ok (.daload, 1) := by decide +kernel
theorem dX0_fillBest_23 : decode cX0_fillBest 23 = .ok (.aload_n 0, 1) := by decide +kernel
theorem dX0_fillBest_24 : decode cX0_fillBest 24 = .ok (.iconst 0, 1) := by decide +kernel
theorem dX0_fillBest_25 : decode cX0_fillBest 25 = .ok (.iload_n 1, 1) := by decide +kernel
theorem dX0_fillBest_26 : decode cX0_fillBest 26 = .ok (.invokevirtual 113, 3) := by decide +kernel
theorem dX0_fillBest_29 : decode cX0_fillBest 29 = .ok (.dmul, 1) := by decide +kernel
theorem dX0_fillBest_30 : decode cX0_fillBest 30 = .ok (.dastore, 1) := by decide +kernel
theorem dX0_fillBest_31 : decode cX0_fillBest 31 = .ok (.iinc 1 1, 3) := by decide +kernel
theorem dX0_fillBest_34 : decode cX0_fillBest 34 = .ok (.goto (-32), 3) := by decide +kernel
theorem dX0_fillBest_37 : decode cX0_fillBest 37 = .ok (.iconst 1, 1) := by decide +kernel
theorem dX0_fillBest_38 : decode cX0_fillBest 38 = .ok (.istore_n 1, 1) := by decide +kernel
theorem dX0_fillBest_39 : decode cX0_fillBest 39 = .ok (.iload_n 1, 1) := by decide +kernel
theorem dX0_fillBest_40 : decode cX0_fillBest 40 = .ok (.aload_n 0, 1) := by decide +kernel
theorem dX0_fillBest_41 : decode cX0_fillBest 41 = .ok (.getfield 13, 3) := by decide +kernel
theorem dX0_fillBest_44 : decode cX0_fillBest 44 = .ok (.if_icmp .ge 75, 3) := by decide +kernel
theorem dX0_fillBest_47 : decode cX0_fillBest 47 = .ok (.iconst 0, 1) := by decide +kernel
theorem dX0_fillBest_48 : decode cX0_fillBest 48 = .ok (.istore_n 2, 1) := by decide +kernel
theorem dX0_fillBest_49 : decode cX0_fillBest 49 = .ok (.iload_n 2, 1) := by decide +kernel
theorem dX0_fillBest_50 : decode cX0_fillBest 50 = .ok (.aload_n 0, 1) := by decide +kernel
theorem dX0_fillBest_51 : decode cX0_fillBest 51 = .ok (.getfield 7, 3) := by decide +kernel
theorem dX0_fillBest_54 : decode cX0_fillBest 54 = .ok (.if_icmp .ge 59, 3) := by decide +kernel
theorem dX0_fillBest_57 : decode cX0_fillBest 57 = .ok (.aload_n 0, 1) := by decide +kernel
theorem dX0_fillBest_58 : decode cX0_fillBest 58 = .ok (.iload_n 1, 1) := by decide +kernel
theorem dX0_fillBest_59 : decode cX0_fillBest 59 = .ok (.iload_n 2, 1) := by decide +kernel
theorem dX0_fillBest_60 : decode cX0_fillBest 60 = .ok (.invokevirtual 119, 3) := by decide +kernel
theorem dX0_fillBest_63 : decode cX0_fillBest 63 = .ok (.istore_n 3, 1) := by decide +kernel
theorem dX0_fillBest_64 : decode cX0_fillBest 64 = .ok (.aload_n 0, 1) := by decide +kernel
theorem dX0_fillBest_65 : decode cX0_fillBest 65 = .ok (.getfield 43, 3) := by decide +kernel
theorem dX0_fillBest_68 : decode cX0_fillBest 68 = .ok (.iload_n 1, 1) := by decide +kernel
theorem dX0_fillBest_69 : decode cX0_fillBest 69 = .ok (.aaload, 1) := by decide +kernel
theorem dX0_fillBest_70 : decode cX0_fillBest 70 = .ok (.iload_n 2, 1) := by decide +kernel
theorem dX0_fillBest_71 : decode cX0_fillBest 71 = .ok (.iload_n 3, 1) := by decide +kernel
theorem dX0_fillBest_72 : decode cX0_fillBest 72 = .ok (.iastore, 1) := by decide +kernel
theorem dX0_fillBest_73 : decode cX0_fillBest 73 = .ok (.aload_n 0, 1) := by decide +kernel
theorem dX0_fillBest_74 : decode cX0_fillBest 74 = .ok (.getfield 38, 3) := by decide +kernel
theorem dX0_fillBest_77 : decode cX0_fillBest 77 = .ok (.iload_n 1, 1) := by decide +kernel
theorem dX0_fillBest_78 : decode cX0_fillBest 78 = .ok (.aaload, 1) := by decide +kernel
theorem dX0_fillBest_79 : decode cX0_fillBest 79 = .ok (.iload_n 2, 1) := by decide +kernel
theorem dX0_fillBest_80 : decode cX0_fillBest 80 = .ok (.aload_n 0, 1) := by decide +kernel
theorem dX0_fillBest_81 : decode cX0_fillBest 81 = .ok (.getfield 38, 3) := by decide +kernel
theorem dX0_fillBest_84 : decode cX0_fillBest 84 = .ok (.iload_n 1, 1) := by decide +kernel
theorem dX0_fillBest_85 : decode cX0_fillBest 85 = .ok (.iconst 1, 1) := by decide +kernel
theorem dX0_fillBest_86 : decode cX0_fillBest 86 = .ok (.isub, 1) := by decide +kernel
theorem dX0_fillBest_87 : decode cX0_fillBest 87 = .ok (.aaload, 1) := by decide +kernel
theorem dX0_fillBest_88 : decode cX0_fillBest 88 = .ok (.iload_n 3, 1) := by decide +kernel
theorem dX0_fillBest_89 : decode cX0_fillBest 89 = .ok (.daload, 1) := by decide +kernel
theorem dX0_fillBest_90 : decode cX0_fillBest 90 = .ok (.aload_n 0, 1) := by decide +kernel
theorem dX0_fillBest_91 : decode cX0_fillBest 91 = .ok (.getfield 26, 3) := by decide +kernel
theorem dX0_fillBest_94 : decode cX0_fillBest 94 = .ok (.iload_n 3, 1) := by decide +kernel
theorem dX0_fillBest_95 : decode cX0_fillBest 95 = .ok (.aaload, 1) := by decide +kernel
theorem dX0_fillBest_96 : decode cX0_fillBest 96 = .ok (.iload_n 2, 1) := by decide +kernel
theorem dX0_fillBest_97 : decode cX0_fillBest 97 = .ok (.daload, 1) := by decide +kernel
theorem dX0_fillBest_98 : decode cX0_fillBest 98 = .ok (.dmul, 1) := by decide +kernel
theorem dX0_fillBest_99 : decode cX0_fillBest 99 = .ok (.aload_n 0, 1) := by decide +kernel
theorem dX0_fillBest_100 : decode cX0_fillBest 100 = .ok (.iload_n 1, 1) := by decide +kernel
theorem dX0_fillBest_101 : decode cX0_fillBest 101 = .ok (.iload_n 2, 1) := by decide +kernel
theorem dX0_fillBest_102 : decode cX0_fillBest 102 = .ok (.invokevirtual 113, 3) := by decide +kernel
theorem dX0_fillBest_105 : decode cX0_fillBest 105 = .ok (.dmul, 1) := by decide +kernel
theorem dX0_fillBest_106 : decode cX0_fillBest 106 = .ok (.dastore, 1) := by decide +kernel
theorem dX0_fillBest_107 : decode cX0_fillBest 107 = .ok (.iinc 2 1, 3) := by decide +kernel
theorem dX0_fillBest_110 : decode cX0_fillBest 110 = .ok (.goto (-61), 3) := by decide +kernel
theorem dX0_fillBest_113 : decode cX0_fillBest 113 = .ok (.iinc 1 1, 3) := by decide +kernel
theorem dX0_fillBest_116 : decode cX0_fillBest 116 = .ok (.goto (-77), 3) := by decide +kernel
theorem dX0_fillBest_119 : decode cX0_fillBest 119 = .ok (.return_, 1) := by decide +kernel
theorem dX0_lowestBestInto_0 : decode cX0_lowestBestInto 0 = .ok (.iconst 0, 1) := by decide +kernel
theorem dX0_lowestBestInto_1 : decode cX0_lowestBestInto 1 = .ok (.istore_n 3, 1) := by decide +kernel
theorem dX0_lowestBestInto_2 : decode cX0_lowestBestInto 2 = .ok (.aload_n 0, 1) := by decide +kernel
theorem dX0_lowestBestInto_3 : decode cX0_lowestBestInto 3 = .ok (.getfield 38, 3) := by decide +kernel
theorem dX0_lowestBestInto_6 : decode cX0_lowestBestInto 6 = .ok (.iload_n 1, 1) := by decide +kernel
theorem dX0_lowestBestInto_7 : decode cX0_lowestBestInto 7 = .ok (.iconst 1, 1) := by decide +kernel
theorem dX0_lowestBestInto_8 : decode cX0_lowestBestInto 8 = .ok (.isub, 1) := by decide +kernel
theorem dX0_lowestBestInto_9 : decode cX0_lowestBestInto 9 = .ok (.aaload, 1) := by decide +kernel
theorem dX0_lowestBestInto_10 : decode cX0_lowestBestInto 10 = .ok (.iconst 0, 1) := by decide +kernel
theorem dX0_lowestBestInto_11 : decode cX0_lowestBestInto 11 = .ok (.daload, 1) := by decide +kernel
theorem dX0_lowestBestInto_12 : decode cX0_lowestBestInto 12 = .ok (.aload_n 0, 1) := by decide +kernel
theorem dX0_lowestBestInto_13 : decode cX0_lowestBestInto 13 = .ok (.getfield 26, 3) := by decide +kernel
theorem dX0_lowestBestInto_16 : decode cX0_lowestBestInto 16 = .ok (.iconst 0, 1) := by decide +kernel
theorem dX0_lowestBestInto_17 : decode cX0_lowestBestInto 17 = .ok (.aaload, 1) := by decide +kernel
theorem dX0_lowestBestInto_18 : decode cX0_lowestBestInto 18 = .ok (.iload_n 2, 1) := by decide +kernel
theorem dX0_lowestBestInto_19 : decode cX0_lowestBestInto 19 = .ok (.daload, 1) := by decide +kernel
theorem dX0_lowestBestInto_20 : decode cX0_lowestBestInto 20 = .ok (.dmul, 1) := by decide +kernel
theorem dX0_lowestBestInto_21 : decode cX0_lowestBestInto 21 = .ok (.dstore 4, 2) := by decide +kernel
theorem dX0_lowestBestInto_23 : decode cX0_lowestBestInto 23 = .ok (.iconst 1, 1) := by decide +kernel
theorem dX0_lowestBestInto_24 : decode cX0_lowestBestInto 24 = .ok (.istore 6, 2) := by decide +kernel
theorem dX0_lowestBestInto_26 : decode cX0_lowestBestInto 26 = .ok (.iload 6, 2) := by decide +kernel
theorem dX0_lowestBestInto_28 : decode cX0_lowestBestInto 28 = .ok (.aload_n 0, 1) := by decide +kernel
theorem dX0_lowestBestInto_29 : decode cX0_lowestBestInto 29 = .ok (.getfield 7, 3) := by decide +kernel
theorem dX0_lowestBestInto_32 : decode cX0_lowestBestInto 32 = .ok (.if_icmp .ge 47, 3) := by decide +kernel
theorem dX0_lowestBestInto_35 : decode cX0_lowestBestInto 35 = .ok (.aload_n 0, 1) := by decide +kernel
theorem dX0_lowestBestInto_36 : decode cX0_lowestBestInto 36 = .ok (.getfield 38, 3) := by decide +kernel
theorem dX0_lowestBestInto_39 : decode cX0_lowestBestInto 39 = .ok (.iload_n 1, 1) := by decide +kernel
theorem dX0_lowestBestInto_40 : decode cX0_lowestBestInto 40 = .ok (.iconst 1, 1) := by decide +kernel
theorem dX0_lowestBestInto_41 : decode cX0_lowestBestInto 41 = .ok (.isub, 1) := by decide +kernel
theorem dX0_lowestBestInto_42 : decode cX0_lowestBestInto 42 = .ok (.aaload, 1) := by decide +kernel
theorem dX0_lowestBestInto_43 : decode cX0_lowestBestInto 43 = .ok (.iload 6, 2) := by decide +kernel
theorem dX0_lowestBestInto_45 : decode cX0_lowestBestInto 45 = .ok (.daload, 1) := by decide +kernel
theorem dX0_lowestBestInto_46 : decode cX0_lowestBestInto 46 = .ok (.aload_n 0, 1) := by decide +kernel
theorem dX0_lowestBestInto_47 : decode cX0_lowestBestInto 47 = .ok (.getfield 26, 3) := by decide +kernel
theorem dX0_lowestBestInto_50 : decode cX0_lowestBestInto 50 = .ok (.iload 6, 2) := by decide +kernel
theorem dX0_lowestBestInto_52 : decode cX0_lowestBestInto 52 = .ok (.aaload, 1) := by decide +kernel
theorem dX0_lowestBestInto_53 : decode cX0_lowestBestInto 53 = .ok (.iload_n 2, 1) := by decide +kernel
theorem dX0_lowestBestInto_54 : decode cX0_lowestBestInto 54 = .ok (.daload, 1) := by decide +kernel
theorem dX0_lowestBestInto_55 : decode cX0_lowestBestInto 55 = .ok (.dmul, 1) := by decide +kernel
theorem dX0_lowestBestInto_56 : decode cX0_lowestBestInto 56 = .ok (.dstore 7, 2) := by decide +kernel
theorem dX0_lowestBestInto_58 : decode cX0_lowestBestInto 58 = .ok (.dload 7, 2) := by decide +kernel
theorem dX0_lowestBestInto_60 : decode cX0_lowestBestInto 60 = .ok (.dload 4, 2) := by decide +kernel
theorem dX0_lowestBestInto_62 : decode cX0_lowestBestInto 62 = .ok (.dcmp .l, 1) := by decide +kernel
theorem dX0_lowestBestInto_63 : decode cX0_lowestBestInto 63 = .ok (.ifCond .le 10, 3) := by decide +kernel
theorem dX0_lowestBestInto_66 : decode cX0_lowestBestInto 66 = .ok (.iload 6, 2) := by decide +kernel
theorem dX0_lowestBestInto_68 : decode cX0_lowestBestInto 68 = .ok (.istore_n 3, 1) := by decide +kernel
theorem dX0_lowestBestInto_69 : decode cX0_lowestBestInto 69 = .ok (.dload 7, 2) := by decide +kernel
theorem dX0_lowestBestInto_71 : decode cX0_lowestBestInto 71 = .ok (.dstore 4, 2) := by decide +kernel
theorem dX0_lowestBestInto_73 : decode cX0_lowestBestInto 73 = .ok (.iinc 6 1, 3) := by decide +kernel
theorem dX0_lowestBestInto_76 : decode cX0_lowestBestInto 76 = .ok (.goto (-50), 3) := by decide +kernel
theorem dX0_lowestBestInto_79 : decode cX0_lowestBestInto 79 = .ok (.iload_n 3, 1) := by decide +kernel
theorem dX0_lowestBestInto_80 : decode cX0_lowestBestInto 80 = .ok (.ireturn, 1) := by decide +kernel
theorem dX0_lowestBestAtLast_0 : decode cX0_lowestBestAtLast 0 = .ok (.iconst 0, 1) := by decide +kernel
theorem dX0_lowestBestAtLast_1 : decode cX0_lowestBestAtLast 1 = .ok (.istore_n 1, 1) := by decide +kernel
theorem dX0_lowestBestAtLast_2 : decode cX0_lowestBestAtLast 2 = .ok (.iconst 1, 1) := by decide +kernel
theorem dX0_lowestBestAtLast_3 : decode cX0_lowestBestAtLast 3 = .ok (.istore_n 2, 1) := by decide +kernel
theorem dX0_lowestBestAtLast_4 : decode cX0_lowestBestAtLast 4 = .ok (.iload_n 2, 1) := by decide +kernel
theorem dX0_lowestBestAtLast_5 : decode cX0_lowestBestAtLast 5 = .ok (.aload_n 0, 1) := by decide +kernel
theorem dX0_lowestBestAtLast_6 : decode cX0_lowestBestAtLast 6 = .ok (.getfield 7, 3) := by decide +kernel
theorem dX0_lowestBestAtLast_9 : decode cX0_lowestBestAtLast 9 = .ok (.if_icmp .ge 41, 3) := by decide +kernel
theorem dX0_lowestBestAtLast_12 : decode cX0_lowestBestAtLast 12 = .ok (.aload_n 0, 1) := by decide +kernel
theorem dX0_lowestBestAtLast_13 : decode cX0_lowestBestAtLast 13 = .ok (.getfield 38, 3) := by decide +kernel
theorem dX0_lowestBestAtLast_16 : decode cX0_lowestBestAtLast 16 = .ok (.aload_n 0, 1) := by decide +kernel
theorem dX0_lowestBestAtLast_17 : decode cX0_lowestBestAtLast 17 = .ok (.getfield 13, 3) := by decide +kernel
theorem dX0_lowestBestAtLast_20 : decode cX0_lowestBestAtLast 20 = .ok (.iconst 1, 1) := by decide +kernel
theorem dX0_lowestBestAtLast_21 : decode cX0_lowestBestAtLast 21 = .ok (.isub, 1) := by decide +kernel
theorem dX0_lowestBestAtLast_22 : decode cX0_lowestBestAtLast 22 = .ok (.aaload, 1) := by decide +kernel
theorem dX0_lowestBestAtLast_23 : decode cX0_lowestBestAtLast 23 = .ok (.iload_n 2, 1) := by decide +kernel
theorem dX0_lowestBestAtLast_24 : decode cX0_lowestBestAtLast 24 = .ok (.daload, 1) := by decide +kernel
theorem dX0_lowestBestAtLast_25 : decode cX0_lowestBestAtLast 25 = .ok (.aload_n 0, 1) := by decide +kernel
theorem dX0_lowestBestAtLast_26 : decode cX0_lowestBestAtLast 26 = .ok (.getfield 38, 3) := by decide +kernel
theorem dX0_lowestBestAtLast_29 : decode cX0_lowestBestAtLast 29 = .ok (.aload_n 0, 1) := by decide +kernel
theorem dX0_lowestBestAtLast_30 : decode cX0_lowestBestAtLast 30 = .ok (.getfield 13, 3) := by decide +kernel
theorem dX0_lowestBestAtLast_33 : decode cX0_lowestBestAtLast 33 = .ok (.iconst 1, 1) := by decide +kernel
theorem dX0_lowestBestAtLast_34 : decode cX0_lowestBestAtLast 34 = .ok (.isub, 1) := by decide +kernel
theorem dX0_lowestBestAtLast_35 : decode cX0_lowestBestAtLast 35 = .ok (.aaload, 1) := by decide +kernel
theorem dX0_lowestBestAtLast_36 : decode cX0_lowestBestAtLast 36 = .ok (.iload_n 1, 1) := by decide +kernel
theorem dX0_lowestBestAtLast_37 : decode cX0_lowestBestAtLast 37 = .ok (.daload, 1) := by decide +kernel
theorem dX0_lowestBestAtLast_38 : decode cX0_lowestBestAtLast 38 = .ok (.dcmp .l, 1) := by decide +kernel
theorem dX0_lowestBestAtLast_39 : decode cX0_lowestBestAtLast 39 = .ok (.ifCond .le 5, 3) := by decide +kernel
theorem dX0_lowestBestAtLast_42 : decode cX0_lowestBestAtLast 42 = .ok (.iload_n 2, 1) := by decide +kernel
theorem dX0_lowestBestAtLast_43 : decode cX0_lowestBestAtLast 43 = .ok (.istore_n 1, 1) := by decide +kernel
theorem dX0_lowestBestAtLast_44 : decode cX0_lowestBestAtLast 44 = .ok (.iinc 2 1, 3) := by decide +kernel
theorem dX0_lowestBestAtLast_47 : decode cX0_lowestBestAtLast 47 = .ok (.goto (-43), 3) := by decide +kernel
theorem dX0_lowestBestAtLast_50 : decode cX0_lowestBestAtLast 50 = .ok (.iload_n 1, 1) := by decide +kernel
theorem dX0_lowestBestAtLast_51 : decode cX0_lowestBestAtLast 51 = .ok (.ireturn, 1) := by decide +kernel
set_option maxRecDepth 20000 in
theorem ggX0_fillCounts_X0_weightShown : GoodIn wsX0_fillCounts wsX0_weightShown := goodIn_r _ [8, 9, 10, 17, 18, 19, 20, 21, 22, 23, 24, 25, 26, 27] (by decide +kernel) (by decide +kernel)
set_option maxRecDepth 20000 in
theorem gX0_fillCounts_X0_weightShown : GoodIn wsX0_fillCounts (wsV RX0 113 RX0 yX0_weightShown wsX0_weightShown) := goodIn_app (goodIn_of _ (by decide +kernel)) ggX0_fillCounts_X0_weightShown
set_option maxRecDepth 20000 in
theorem ggX0_fillCounts_X0_countInto : GoodIn wsX0_fillCounts wsX0_countInto := goodIn_r _ [14, 15, 2, 16, 3, 17, 18, 19, 20, 21, 22, 23, 24, 25, 26, 27] (by decide +kernel) (by decide +kernel)
set_option maxRecDepth 20000 in
theorem gX0_fillCounts_X0_countInto : GoodIn wsX0_fillCounts (wsV RX0 123 RX0 yX0_countInto wsX0_countInto) := goodIn_app (goodIn_of _ (by decide +kernel)) ggX0_fillCounts_X0_countInto
theorem dX0_fillCounts_0 : decode cX0_fillCounts 0 = .ok (.iconst 0, 1) := by decide +kernel
theorem dX0_fillCounts_1 : decode cX0_fillCounts 1 = .ok (.istore_n 1, 1) := by decide +kernel
theorem dX0_fillCounts_2 : decode cX0_fillCounts 2 = .ok (.iload_n 1, 1) := by decide +kernel
theorem dX0_fillCounts_3 : decode cX0_fillCounts 3 = .ok (.aload_n 0, 1) := by decide +kernel
theorem dX0_fillCounts_4 : decode cX0_fillCounts 4 = .ok (.getfield 13, 3) := by decide +kernel
theorem dX0_fillCounts_7 : decode cX0_fillCounts 7 = .ok (.if_icmp .ge 54, 3) := by decide +kernel
theorem dX0_fillCounts_10 : decode cX0_fillCounts 10 = .ok (.iconst 0, 1) := by decide +kernel
theorem dX0_fillCounts_11 : decode cX0_fillCounts 11 = .ok (.istore_n 2, 1) := by decide +kernel
theorem dX0_fillCounts_12 : decode cX0_fillCounts 12 = .ok (.iload_n 2, 1) := by decide +kernel
theorem dX0_fillCounts_13 : decode cX0_fillCounts 13 = .ok (.aload_n 0, 1) := by decide +kernel
theorem dX0_fillCounts_14 : decode cX0_fillCounts 14 = .ok (.getfield 7, 3) := by decide +kernel
theorem dX0_fillCounts_17 : decode cX0_fillCounts 17 = .ok (.if_icmp .ge 38, 3) := by decide +kernel
theorem dX0_fillCounts_20 : decode cX0_fillCounts 20 = .ok (.aload_n 0, 1) := by decide +kernel
theorem dX0_fillCounts_21 : decode cX0_fillCounts 21 = .ok (.getfield 48, 3) := by decide +kernel
theorem dX0_fillCounts_24 : decode cX0_fillCounts 24 = .ok (.iload_n 1, 1) := by decide +kernel
theorem dX0_fillCounts_25 : decode cX0_fillCounts 25 = .ok (.aaload, 1) := by decide +kernel
theorem dX0_fillCounts_26 : decode cX0_fillCounts 26 = .ok (.iload_n 2, 1) := by decide +kernel
theorem dX0_fillCounts_27 : decode cX0_fillCounts 27 = .ok (.aload_n 0, 1) := by decide +kernel
theorem dX0_fillCounts_28 : decode cX0_fillCounts 28 = .ok (.iload_n 1, 1) := by decide +kernel
theorem dX0_fillCounts_29 : decode cX0_fillCounts 29 = .ok (.iload_n 2, 1) := by decide +kernel
theorem dX0_fillCounts_30 : decode cX0_fillCounts 30 = .ok (.invokevirtual 113, 3) := by decide +kernel
theorem dX0_fillCounts_33 : decode cX0_fillCounts 33 = .ok (.dconst 0, 1) := by decide +kernel
theorem dX0_fillCounts_34 : decode cX0_fillCounts 34 = .ok (.dcmp .l, 1) := by decide +kernel
theorem dX0_fillCounts_35 : decode cX0_fillCounts 35 = .ok (.ifCond .le 12, 3) := by decide +kernel
theorem dX0_fillCounts_38 : decode cX0_fillCounts 38 = .ok (.aload_n 0, 1) := by decide +kernel
theorem dX0_fillCounts_39 : decode cX0_fillCounts 39 = .ok (.iload_n 1, 1) := by decide +kernel
theorem dX0_fillCounts_40 : decode cX0_fillCounts 40 = .ok (.iload_n 2, 1) := by decide +kernel
theorem dX0_fillCounts_41 : decode cX0_fillCounts 41 = .ok (.invokevirtual 123, 3) := by decide +kernel
theorem dX0_fillCounts_44 : decode cX0_fillCounts 44 = .ok (.goto 4, 3) := by decide +kernel
theorem dX0_fillCounts_47 : decode cX0_fillCounts 47 = .ok (.lconst 0, 1) := by decide +kernel
theorem dX0_fillCounts_48 : decode cX0_fillCounts 48 = .ok (.lastore, 1) := by decide +kernel
theorem dX0_fillCounts_49 : decode cX0_fillCounts 49 = .ok (.iinc 2 1, 3) := by decide +kernel
theorem dX0_fillCounts_52 : decode cX0_fillCounts 52 = .ok (.goto (-40), 3) := by decide +kernel
theorem dX0_fillCounts_55 : decode cX0_fillCounts 55 = .ok (.iinc 1 1, 3) := by decide +kernel
theorem dX0_fillCounts_58 : decode cX0_fillCounts 58 = .ok (.goto (-56), 3) := by decide +kernel
theorem dX0_fillCounts_61 : decode cX0_fillCounts 61 = .ok (.return_, 1) := by decide +kernel
theorem dX0_countInto_0 : decode cX0_countInto 0 = .ok (.iload_n 1, 1) := by decide +kernel
theorem dX0_countInto_1 : decode cX0_countInto 1 = .ok (.ifCond .ne 20, 3) := by decide +kernel
theorem dX0_countInto_4 : decode cX0_countInto 4 = .ok (.aload_n 0, 1) := by decide +kernel
theorem dX0_countInto_5 : decode cX0_countInto 5 = .ok (.getfield 20, 3) := by decide +kernel
theorem dX0_countInto_8 : decode cX0_countInto 8 = .ok (.iload_n 2, 1) := by decide +kernel
theorem dX0_countInto_9 : decode cX0_countInto 9 = .ok (.daload, 1) := by decide +kernel
theorem dX0_countInto_10 : decode cX0_countInto 10 = .ok (.dconst 0, 1) := by decide +kernel
theorem dX0_countInto_11 : decode cX0_countInto 11 = .ok (.dcmp .l, 1) := by decide +kernel
theorem dX0_countInto_12 : decode cX0_countInto 12 = .ok (.ifCond .le 7, 3) := by decide +kernel
theorem dX0_countInto_15 : decode cX0_countInto 15 = .ok (.lconst 1, 1) := by decide +kernel
theorem dX0_countInto_16 : decode cX0_countInto 16 = .ok (.goto 4, 3) := by decide +kernel
theorem dX0_countInto_19 : decode cX0_countInto 19 = .ok (.lconst 0, 1) := by decide +kernel
theorem dX0_countInto_20 : decode cX0_countInto 20 = .ok (.lreturn, 1) := by decide +kernel
theorem dX0_countInto_21 : decode cX0_countInto 21 = .ok (.lconst 0, 1) := by decide +kernel
theorem dX0_countInto_22 : decode cX0_countInto 22 = .ok (.lstore_n 3, 1) := by decide +kernel
theorem dX0_countInto_23 : decode cX0_countInto 23 = .ok (.iconst 0, 1) := by decide +kernel
theorem dX0_countInto_24 : decode cX0_countInto 24 = .ok (.istore 5, 2) := by decide +kernel
theorem dX0_countInto_26 : decode cX0_countInto 26 = .ok (.iload 5, 2) := by decide +kernel
theorem dX0_countInto_28 : decode cX0_countInto 28 = .ok (.aload_n 0, 1) := by decide +kernel
theorem dX0_countInto_29 : decode cX0_countInto 29 = .ok (.getfield 7, 3) := by decide +kernel
theorem dX0_countInto_32 : decode cX0_countInto 32 = .ok (.if_icmp .ge 37, 3) := by decide +kernel
theorem dX0_countInto_35 : decode cX0_countInto 35 = .ok (.aload_n 0, 1) := by decide +kernel
theorem dX0_countInto_36 : decode cX0_countInto 36 = .ok (.getfield 26, 3) := by decide +kernel
theorem dX0_countInto_39 : decode cX0_countInto 39 = .ok (.iload 5, 2) := by decide +kernel
theorem dX0_countInto_41 : decode cX0_countInto 41 = .ok (.aaload, 1) := by decide +kernel
theorem dX0_countInto_42 : decode cX0_countInto 42 = .ok (.iload_n 2, 1) := by decide +kernel
theorem dX0_countInto_43 : decode cX0_countInto 43 = .ok (.daload, 1) := by decide +kernel
theorem dX0_countInto_44 : decode cX0_countInto 44 = .ok (.dconst 0, 1) := by decide +kernel
theorem dX0_countInto_45 : decode cX0_countInto 45 = .ok (.dcmp .l, 1) := by decide +kernel
theorem dX0_countInto_46 : decode cX0_countInto 46 = .ok (.ifCond .le 17, 3) := by decide +kernel
theorem dX0_countInto_49 : decode cX0_countInto 49 = .ok (.lload_n 3, 1) := by decide +kernel
theorem dX0_countInto_50 : decode cX0_countInto 50 = .ok (.aload_n 0, 1) := by decide +kernel
theorem dX0_countInto_51 : decode cX0_countInto 51 = .ok (.getfield 48, 3) := by decide +kernel
theorem dX0_countInto_54 : decode cX0_countInto 54 = .ok (.iload_n 1, 1) := by decide +kernel
theorem dX0_countInto_55 : decode cX0_countInto 55 = .ok (.iconst 1, 1) := by decide +kernel
theorem dX0_countInto_56 : decode cX0_countInto 56 = .ok (.isub, 1) := by decide +kernel
theorem dX0_countInto_57 : decode cX0_countInto 57 = .ok (.aaload, 1) := by decide +kernel
theorem dX0_countInto_58 : decode cX0_countInto 58 = .ok (.iload 5, 2) := by decide +kernel
theorem dX0_countInto_60 : decode cX0_countInto 60 = .ok (.laload, 1) := by decide +kernel
theorem dX0_countInto_61 : decode cX0_countInto 61 = .ok (.ladd, 1) := by decide +kernel
theorem dX0_countInto_62 : decode cX0_countInto 62 = .ok (.lstore_n 3, 1) := by decide +kernel
theorem dX0_countInto_63 : decode cX0_countInto 63 = .ok (.iinc 5 1, 3) := by decide +kernel
theorem dX0_countInto_66 : decode cX0_countInto 66 = .ok (.goto (-40), 3) := by decide +kernel
theorem dX0_countInto_69 : decode cX0_countInto 69 = .ok (.lload_n 3, 1) := by decide +kernel
theorem dX0_countInto_70 : decode cX0_countInto 70 = .ok (.lreturn, 1) := by decide +kernel
end
section
theorem dX1_init_0 : decode cX1_init 0 = .ok (.aload_n 0, 1) := by decide +kernel
theorem dX1_init_1 : decode cX1_init 1 = .ok (.invokespecial 1, 3) := by decide +kernel
theorem dX1_init_4 : decode cX1_init 4 = .ok (.aload_n 0, 1) := by decide +kernel
theorem dX1_init_5 : decode cX1_init 5 = .ok (.bipush 6, 2) := by decide +kernel
theorem dX1_init_7 : decode cX1_init 7 = .ok (.newarray .double, 2) := by decide +kernel
theorem dX1_init_9 : decode cX1_init 9 = .ok (.putfield 7, 3) := by decide +kernel
theorem dX1_init_12 : decode cX1_init 12 = .ok (.aload_n 0, 1) := by decide +kernel
theorem dX1_init_13 : decode cX1_init 13 = .ok (.bipush 36, 2) := by decide +kernel
theorem dX1_init_15 : decode cX1_init 15 = .ok (.newarray .double, 2) := by decide +kernel
theorem dX1_init_17 : decode cX1_init 17 = .ok (.putfield 13, 3) := by decide +kernel
theorem dX1_init_20 : decode cX1_init 20 = .ok (.aload_n 0, 1) := by decide +kernel
theorem dX1_init_21 : decode cX1_init 21 = .ok (.bipush 24, 2) := by decide +kernel
theorem dX1_init_23 : decode cX1_init 23 = .ok (.newarray .double, 2) := by decide +kernel
theorem dX1_init_25 : decode cX1_init 25 = .ok (.putfield 16, 3) := by decide +kernel
theorem dX1_init_28 : decode cX1_init 28 = .ok (.aload_n 0, 1) := by decide +kernel
theorem dX1_init_29 : decode cX1_init 29 = .ok (.bipush 12, 2) := by decide +kernel
theorem dX1_init_31 : decode cX1_init 31 = .ok (.newarray .int, 2) := by decide +kernel
theorem dX1_init_33 : decode cX1_init 33 = .ok (.putfield 19, 3) := by decide +kernel
theorem dX1_init_36 : decode cX1_init 36 = .ok (.aload_n 0, 1) := by decide +kernel
theorem dX1_init_37 : decode cX1_init 37 = .ok (.bipush 6, 2) := by decide +kernel
theorem dX1_init_39 : decode cX1_init 39 = .ok (.newarray .double, 2) := by decide +kernel
theorem dX1_init_41 : decode cX1_init 41 = .ok (.putfield 23, 3) := by decide +kernel
theorem dX1_init_44 : decode cX1_init 44 = .ok (.aload_n 0, 1) := by decide +kernel
theorem dX1_init_45 : decode cX1_init 45 = .ok (.bipush 6, 2) := by decide +kernel
theorem dX1_init_47 : decode cX1_init 47 = .ok (.newarray .double, 2) := by decide +kernel
theorem dX1_init_49 : decode cX1_init 49 = .ok (.putfield 26, 3) := by decide +kernel
theorem dX1_init_52 : decode cX1_init 52 = .ok (.aload_n 0, 1) := by decide +kernel
theorem dX1_init_53 : decode cX1_init 53 = .ok (.bipush 6, 2) := by decide +kernel
theorem dX1_init_55 : decode cX1_init 55 = .ok (.newarray .long, 2) := by decide +kernel
theorem dX1_init_57 : decode cX1_init 57 = .ok (.putfield 29, 3) := by decide +kernel
theorem dX1_init_60 : decode cX1_init 60 = .ok (.aload_n 0, 1) := by decide +kernel
theorem dX1_init_61 : decode cX1_init 61 = .ok (.bipush 6, 2) := by decide +kernel
theorem dX1_init_63 : decode cX1_init 63 = .ok (.newarray .long, 2) := by decide +kernel
theorem dX1_init_65 : decode cX1_init 65 = .ok (.putfield 33, 3) := by decide +kernel
theorem dX1_init_68 : decode cX1_init 68 = .ok (.aload_n 0, 1) := by decide +kernel
theorem dX1_init_69 : decode cX1_init 69 = .ok (.iconst 1, 1) := by decide +kernel
theorem dX1_init_70 : decode cX1_init 70 = .ok (.putfield 36, 3) := by decide +kernel
theorem dX1_init_73 : decode cX1_init 73 = .ok (.return_, 1) := by decide +kernel
theorem dX1_thrown_0 : decode cX1_thrown 0 = .ok (.aload_n 0, 1) := by decide +kernel
theorem dX1_thrown_1 : decode cX1_thrown 1 = .ok (.getfield 40, 3) := by decide +kernel
theorem dX1_thrown_4 : decode cX1_thrown 4 = .ok (.ireturn, 1) := by decide +kernel
theorem dX1_unit_0 : decode cX1_unit 0 = .ok (.dload_n 0, 1) := by decide +kernel
theorem dX1_unit_1 : decode cX1_unit 1 = .ok (.dconst 0, 1) := by decide +kernel
theorem dX1_unit_2 : decode cX1_unit 2 = .ok (.dcmp .l, 1) := by decide +kernel
theorem dX1_unit_3 : decode cX1_unit 3 = .ok (.ifCond .lt 13, 3) := by decide +kernel
theorem dX1_unit_6 : decode cX1_unit 6 = .ok (.dload_n 0, 1) := by decide +kernel
theorem dX1_unit_7 : decode cX1_unit 7 = .ok (.dconst 1, 1) := by decide +kernel
theorem dX1_unit_8 : decode cX1_unit 8 = .ok (.dcmp .g, 1) := by decide +kernel
theorem dX1_unit_9 : decode cX1_unit 9 = .ok (.ifCond .gt 7, 3) := by decide +kernel
theorem dX1_unit_12 : decode cX1_unit 12 = .ok (.iconst 1, 1) := by decide +kernel
theorem dX1_unit_13 : decode cX1_unit 13 = .ok (.goto 4, 3) := by decide +kernel
theorem dX1_unit_16 : decode cX1_unit 16 = .ok (.iconst 0, 1) := by decide +kernel
theorem dX1_unit_17 : decode cX1_unit 17 = .ok (.ireturn, 1) := by decide +kernel
theorem dX1_state_0 : decode cX1_state 0 = .ok (.iload_n 1, 1) := by decide +kernel
theorem dX1_state_1 : decode cX1_state 1 = .ok (.ifCond .lt 15, 3) := by decide +kernel
theorem dX1_state_4 : decode cX1_state 4 = .ok (.iload_n 1, 1) := by decide +kernel
theorem dX1_state_5 : decode cX1_state 5 = .ok (.aload_n 0, 1) := by decide +kernel
theorem dX1_state_6 : decode cX1_state 6 = .ok (.getfield 36, 3) := by decide +kernel
theorem dX1_state_9 : decode cX1_state 9 = .ok (.if_icmp .ge 7, 3) := by decide +kernel
theorem dX1_state_12 : decode cX1_state 12 = .ok (.iconst 1, 1) := by decide +kernel
theorem dX1_state_13 : decode cX1_state 13 = .ok (.goto 4, 3) := by decide +kernel
theorem dX1_state_16 : decode cX1_state 16 = .ok (.iconst 0, 1) := by decide +kernel
theorem dX1_state_17 : decode cX1_state 17 = .ok (.ireturn, 1) := by decide +kernel
theorem dX1_symbol_0 : decode cX1_symbol 0 = .ok (.iload_n 0, 1) := by decide +kernel
theorem dX1_symbol_1 : decode cX1_symbol 1 = .ok (.ifCond .lt 12, 3) := by decide +kernel
theorem dX1_symbol_4 : decode cX1_symbol 4 = .ok (.iload_n 0, 1) := by decide +kernel
theorem dX1_symbol_5 : decode cX1_symbol 5 = .ok (.iconst 3, 1) := by decide +kernel
theorem dX1_symbol_6 : decode cX1_symbol 6 = .ok (.if_icmp .gt 7, 3) := by decide +kernel
theorem dX1_symbol_9 : decode cX1_symbol 9 = .ok (.iconst 1, 1) := by decide +kernel
theorem dX1_symbol_10 : decode cX1_symbol 10 = .ok (.goto 4, 3) := by decide +kernel
theorem dX1_symbol_13 : decode cX1_symbol 13 = .ok (.iconst 0, 1) := by decide +kernel
theorem dX1_symbol_14 : decode cX1_symbol 14 = .ok (.ireturn, 1) := by decide +kernel
theorem dX1_states_0 : decode cX1_states 0 = .ok (.aload_n 0, 1) := by decide +kernel
theorem dX1_states_1 : decode cX1_states 1 = .ok (.iconst 0, 1) := by decide +kernel
theorem dX1_states_2 : decode cX1_states 2 = .ok (.putfield 40, 3) := by decide +kernel
theorem dX1_states_5 : decode cX1_states 5 = .ok (.iload_n 1, 1) := by decide +kernel
theorem dX1_states_6 : decode cX1_states 6 = .ok (.iconst 1, 1) := by decide +kernel
theorem dX1_states_7 : decode cX1_states 7 = .ok (.if_icmp .lt 9, 3) := by decide +kernel
theorem dX1_states_10 : decode cX1_states 10 = .ok (.iload_n 1, 1) := by decide +kernel
theorem dX1_states_11 : decode cX1_states 11 = .ok (.bipush 6, 2) := by decide +kernel
theorem dX1_states_13 : decode cX1_states 13 = .ok (.if_icmp .le 5, 3) := by decide +kernel
theorem dX1_states_16 : decode cX1_states 16 = .ok (.iconst 0, 1) := by decide +kernel
theorem dX1_states_17 : decode cX1_states 17 = .ok (.ireturn, 1) := by decide +kernel
theorem dX1_states_18 : decode cX1_states 18 = .ok (.aload_n 0, 1) := by decide +kernel
theorem dX1_states_19 : decode cX1_states 19 = .ok (.iload_n 1, 1) := by decide +kernel
theorem dX1_states_20 : decode cX1_states 20 = .ok (.putfield 36, 3) := by decide +kernel
theorem dX1_states_23 : decode cX1_states 23 = .ok (.aload_n 0, 1) := by decide +kernel
theorem dX1_states_24 : decode cX1_states 24 = .ok (.iconst 0, 1) := by decide +kernel
theorem dX1_states_25 : decode cX1_states 25 = .ok (.putfield 43, 3) := by decide +kernel
theorem dX1_states_28 : decode cX1_states 28 = .ok (.iconst 0, 1) := by decide +kernel
theorem dX1_states_29 : decode cX1_states 29 = .ok (.istore_n 2, 1) := by decide +kernel
theorem dX1_states_30 : decode cX1_states 30 = .ok (.iload_n 2, 1) := by decide +kernel
theorem dX1_states_31 : decode cX1_states 31 = .ok (.bipush 6, 2) := by decide +kernel
theorem dX1_states_33 : decode cX1_states 33 = .ok (.if_icmp .ge 16, 3) := by decide +kernel
theorem dX1_states_36 : decode cX1_states 36 = .ok (.aload_n 0, 1) := by decide +kernel
theorem dX1_states_37 : decode cX1_states 37 = .ok (.getfield 7, 3) := by decide +kernel
theorem dX1_states_40 : decode cX1_states 40 = .ok (.iload_n 2, 1) := by decide +kernel
theorem dX1_states_41 : decode cX1_states 41 = .ok (.dconst 0, 1) := by decide +kernel
theorem dX1_states_42 : decode cX1_states 42 = .ok (.dastore, 1) := by decide +kernel
theorem dX1_states_43 : decode cX1_states 43 = .ok (.iinc 2 1, 3) := by decide +kernel
theorem dX1_states_46 : decode cX1_states 46 = .ok (.goto (-16), 3) := by decide +kernel
theorem dX1_states_49 : decode cX1_states 49 = .ok (.iconst 0, 1) := by decide +kernel
theorem dX1_states_50 : decode cX1_states 50 = .ok (.istore_n 2, 1) := by decide +kernel
theorem dX1_states_51 : decode cX1_states 51 = .ok (.iload_n 2, 1) := by decide +kernel
theorem dX1_states_52 : decode cX1_states 52 = .ok (.bipush 36, 2) := by decide +kernel
theorem dX1_states_54 : decode cX1_states 54 = .ok (.if_icmp .ge 16, 3) := by decide +kernel
theorem dX1_states_57 : decode cX1_states 57 = .ok (.aload_n 0, 1) := by decide +kernel
theorem dX1_states_58 : decode cX1_states 58 = .ok (.getfield 13, 3) := by decide +kernel
theorem dX1_states_61 : decode cX1_states 61 = .ok (.iload_n 2, 1) := by decide +kernel
theorem dX1_states_62 : decode cX1_states 62 = .ok (.dconst 0, 1) := by decide +kernel
theorem dX1_states_63 : decode cX1_states 63 = .ok (.dastore, 1) := by decide +kernel
theorem dX1_states_64 : decode cX1_states 64 = .ok (.iinc 2 1, 3) := by decide +kernel
theorem dX1_states_67 : decode cX1_states 67 = .ok (.goto (-16), 3) := by decide +kernel
theorem dX1_states_70 : decode cX1_states 70 = .ok (.iconst 0, 1) := by decide +kernel
theorem dX1_states_71 : decode cX1_states 71 = .ok (.istore_n 2, 1) := by decide +kernel
theorem dX1_states_72 : decode cX1_states 72 = .ok (.iload_n 2, 1) := by decide +kernel
theorem dX1_states_73 : decode cX1_states 73 = .ok (.bipush 24, 2) := by decide +kernel
theorem dX1_states_75 : decode cX1_states 75 = .ok (.if_icmp .ge 16, 3) := by decide +kernel
theorem dX1_states_78 : decode cX1_states 78 = .ok (.aload_n 0, 1) := by decide +kernel
theorem dX1_states_79 : decode cX1_states 79 = .ok (.getfield 16, 3) := by decide +kernel
theorem dX1_states_82 : decode cX1_states 82 = .ok (.iload_n 2, 1) := by decide +kernel
theorem dX1_states_83 : decode cX1_states 83 = .ok (.dconst 0, 1) := by decide +kernel
theorem dX1_states_84 : decode cX1_states 84 = .ok (.dastore, 1) := by decide +kernel
theorem dX1_states_85 : decode cX1_states 85 = .ok (.iinc 2 1, 3) := by decide +kernel
theorem dX1_states_88 : decode cX1_states 88 = .ok (.goto (-16), 3) := by decide +kernel
theorem dX1_states_91 : decode cX1_states 91 = .ok (.iconst 1, 1) := by decide +kernel
theorem dX1_states_92 : decode cX1_states 92 = .ok (.ireturn, 1) := by decide +kernel
theorem dX1_size_0 : decode cX1_size 0 = .ok (.aload_n 0, 1) := by decide +kernel
theorem dX1_size_1 : decode cX1_size 1 = .ok (.iconst 0, 1) := by decide +kernel
theorem dX1_size_2 : decode cX1_size 2 = .ok (.putfield 40, 3) := by decide +kernel
theorem dX1_size_5 : decode cX1_size 5 = .ok (.aload_n 0, 1) := by decide +kernel
theorem dX1_size_6 : decode cX1_size 6 = .ok (.getfield 36, 3) := by decide +kernel
theorem dX1_size_9 : decode cX1_size 9 = .ok (.ireturn, 1) := by decide +kernel
set_option maxRecDepth 20000 in
theorem ggX1_start_X1_state : GoodIn wsX1_start wsX1_state := goodIn_r _ [7, 8, 12, 13, 14, 15, 16, 17, 18, 19, 20, 21, 22] (by decide +kernel) (by decide +kernel)
set_option maxRecDepth 20000 in
theorem gX1_start_X1_state : GoodIn wsX1_start (wsV RX1 46 RX1 yX1_state wsX1_state) := goodIn_app (goodIn_of _ (by decide +kernel)) ggX1_start_X1_state
set_option maxRecDepth 20000 in
theorem ggX1_start_X1_unit : GoodIn wsX1_start wsX1_unit := goodIn_r _ [11] (by decide +kernel) (by decide +kernel)
set_option maxRecDepth 20000 in
theorem gX1_start_X1_unit : GoodIn wsX1_start (va_wsS RX1 50 yX1_unit wsX1_unit) := goodIn_app (goodIn_of _ (by decide +kernel)) ggX1_start_X1_unit
theorem dX1_start_0 : decode cX1_start 0 = .ok (.aload_n 0, 1) := by decide +kernel
theorem dX1_start_1 : decode cX1_start 1 = .ok (.iconst 0, 1) := by decide +kernel
theorem dX1_start_2 : decode cX1_start 2 = .ok (.putfield 40, 3) := by decide +kernel
theorem dX1_start_5 : decode cX1_start 5 = .ok (.aload_n 0, 1) := by decide +kernel
theorem dX1_start_6 : decode cX1_start 6 = .ok (.iload_n 1, 1) := by decide +kernel
theorem dX1_start_7 : decode cX1_start 7 = .ok (.invokevirtual 46, 3) := by decide +kernel
theorem dX1_start_10 : decode cX1_start 10 = .ok (.ifCond .eq 10, 3) := by decide +kernel
theorem dX1_start_13 : decode cX1_start 13 = .ok (.dload_n 2, 1) := by decide +kernel
theorem dX1_start_14 : decode cX1_start 14 = .ok (.invokestatic 50, 3) := by decide +kernel
theorem dX1_start_17 : decode cX1_start 17 = .ok (.ifCond .ne 5, 3) := by decide +kernel
theorem dX1_start_20 : decode cX1_start 20 = .ok (.iconst 0, 1) := by decide +kernel
theorem dX1_start_21 : decode cX1_start 21 = .ok (.ireturn, 1) := by decide +kernel
theorem dX1_start_22 : decode cX1_start 22 = .ok (.aload_n 0, 1) := by decide +kernel
theorem dX1_start_23 : decode cX1_start 23 = .ok (.getfield 7, 3) := by decide +kernel
theorem dX1_start_26 : decode cX1_start 26 = .ok (.iload_n 1, 1) := by decide +kernel
theorem dX1_start_27 : decode cX1_start 27 = .ok (.dload_n 2, 1) := by decide +kernel
theorem dX1_start_28 : decode cX1_start 28 = .ok (.dastore, 1) := by decide +kernel
theorem dX1_start_29 : decode cX1_start 29 = .ok (.iconst 1, 1) := by decide +kernel
theorem dX1_start_30 : decode cX1_start 30 = .ok (.ireturn, 1) := by decide +kernel
set_option maxRecDepth 20000 in
theorem ggX1_move_X1_state : GoodIn wsX1_move wsX1_state := goodIn_r _ [7, 8, 12, 13, 14, 15, 16, 17, 18, 19, 20, 21, 22] (by decide +kernel) (by decide +kernel)
set_option maxRecDepth 20000 in
theorem gX1_move_X1_state : GoodIn wsX1_move (wsV RX1 46 RX1 yX1_state wsX1_state) := goodIn_app (goodIn_of _ (by decide +kernel)) ggX1_move_X1_state
set_option maxRecDepth 20000 in
theorem ggX1_move_X1_unit : GoodIn wsX1_move wsX1_unit := goodIn_r _ [11] (by decide +kernel) (by decide +kernel)
set_option maxRecDepth 20000 in
theorem gX1_move_X1_unit : GoodIn wsX1_move (va_wsS RX1 50 yX1_unit wsX1_unit) := goodIn_app (goodIn_of _ (by decide +kernel)) ggX1_move_X1_unit
theorem dX1_move_0 : decode cX1_move 0 = .ok (.aload_n 0, 1) := by decide +kernel
theorem dX1_move_1 : decode cX1_move 1 = .ok (.iconst 0, 1) := by decide +kernel
theorem dX1_move_2 : decode cX1_move 2 = .ok (.putfield 40, 3) := by decide +kernel
theorem dX1_move_5 : decode cX1_move 5 = .ok (.aload_n 0, 1) := by decide +kernel
theorem dX1_move_6 : decode cX1_move 6 = .ok (.iload_n 1, 1) := by decide +kernel
theorem dX1_move_7 : decode cX1_move 7 = .ok (.invokevirtual 46, 3) := by decide +kernel
theorem dX1_move_10 : decode cX1_move 10 = .ok (.ifCond .eq 18, 3) := by decide +kernel
theorem dX1_move_13 : decode cX1_move 13 = .ok (.aload_n 0, 1) := by decide +kernel
theorem dX1_move_14 : decode cX1_move 14 = .ok (.iload_n 2, 1) := by decide +kernel
theorem dX1_move_15 : decode cX1_move 15 = .ok (.invokevirtual 46, 3) := by decide +kernel
theorem dX1_move_18 : decode cX1_move 18 = .ok (.ifCond .eq 10, 3) := by decide +kernel
theorem dX1_move_21 : decode cX1_move 21 = .ok (.dload_n 3, 1) := by decide +kernel
theorem dX1_move_22 : decode cX1_move 22 = .ok (.invokestatic 50, 3) := by decide +kernel
theorem dX1_move_25 : decode cX1_move 25 = .ok (.ifCond .ne 5, 3) := by decide +kernel
theorem dX1_move_28 : decode cX1_move 28 = .ok (.iconst 0, 1) := by decide +kernel
theorem dX1_move_29 : decode cX1_move 29 = .ok (.ireturn, 1) := by decide +kernel
theorem dX1_move_30 : decode cX1_move 30 = .ok (.aload_n 0, 1) := by decide +kernel
theorem dX1_move_31 : decode cX1_move 31 = .ok (.getfield 13, 3) := by decide +kernel
theorem dX1_move_34 : decode cX1_move 34 = .ok (.bipush 6, 2) := by decide +kernel
theorem dX1_move_36 : decode cX1_move 36 = .ok (.iload_n 1, 1) := by decide +kernel
theorem dX1_move_37 : decode cX1_move 37 = .ok (.imul, 1) := by decide +kernel
theorem dX1_move_38 : decode cX1_move 38 = .ok (.iload_n 2, 1) := by decide +kernel
theorem dX1_move_39 : decode cX1_move 39 = .ok (.iadd, 1) := by decide +kernel
theorem dX1_move_40 : decode cX1_move 40 = .ok (.dload_n 3, 1) := by decide +kernel
theorem dX1_move_41 : decode cX1_move 41 = .ok (.dastore, 1) := by decide +kernel
theorem dX1_move_42 : decode cX1_move 42 = .ok (.iconst 1, 1) := by decide +kernel
theorem dX1_move_43 : decode cX1_move 43 = .ok (.ireturn, 1) := by decide +kernel
set_option maxRecDepth 20000 in
theorem ggX1_show_X1_state : GoodIn wsX1_show wsX1_state := goodIn_r _ [7, 8, 15, 16, 17, 18, 19, 20, 21, 22, 23, 24, 25] (by decide +kernel) (by decide +kernel)
set_option maxRecDepth 20000 in
theorem gX1_show_X1_state : GoodIn wsX1_show (wsV RX1 46 RX1 yX1_state wsX1_state) := goodIn_app (goodIn_of _ (by decide +kernel)) ggX1_show_X1_state
set_option maxRecDepth 20000 in
theorem ggX1_show_X1_symbol : GoodIn wsX1_show wsX1_symbol := goodIn_r _ [11] (by decide +kernel) (by decide +kernel)
set_option maxRecDepth 20000 in
theorem gX1_show_X1_symbol : GoodIn wsX1_show (va_wsS RX1 54 yX1_symbol wsX1_symbol) := goodIn_app (goodIn_of _ (by decide +kernel)) ggX1_show_X1_symbol
set_option maxRecDepth 20000 in
theorem ggX1_show_X1_unit : GoodIn wsX1_show wsX1_unit := goodIn_r _ [14] (by decide +kernel) (by decide +kernel)
set_option maxRecDepth 20000 in
theorem gX1_show_X1_unit : GoodIn wsX1_show (va_wsS RX1 50 yX1_unit wsX1_unit) := goodIn_app (goodIn_of _ (by decide +kernel)) ggX1_show_X1_unit
theorem dX1_show_0 : decode cX1_show 0 = .ok (.aload_n 0, 1) := by decide +kernel
theorem dX1_show_1 : decode cX1_show 1 = .ok (.iconst 0, 1) := by decide +kernel
theorem dX1_show_2 : decode cX1_show 2 = .ok (.putfield 40, 3) := by decide +kernel
theorem dX1_show_5 : decode cX1_show 5 = .ok (.aload_n 0, 1) := by decide +kernel
theorem dX1_show_6 : decode cX1_show 6 = .ok (.iload_n 1, 1) := by decide +kernel
theorem dX1_show_7 : decode cX1_show 7 = .ok (.invokevirtual 46, 3) := by decide +kernel
theorem dX1_show_10 : decode cX1_show 10 = .ok (.ifCond .eq 17, 3) := by decide +kernel
theorem dX1_show_13 : decode cX1_show 13 = .ok (.iload_n 2, 1) := by decide +kernel
theorem dX1_show_14 : decode cX1_show 14 = .ok (.invokestatic 54, 3) := by decide +kernel
theorem dX1_show_17 : decode cX1_show 17 = .ok (.ifCond .eq 10, 3) := by decide +kernel
theorem dX1_show_20 : decode cX1_show 20 = .ok (.dload_n 3, 1) := by decide +kernel
theorem dX1_show_21 : decode cX1_show 21 = .ok (.invokestatic 50, 3) := by decide +kernel
theorem dX1_show_24 : decode cX1_show 24 = .ok (.ifCond .ne 5, 3) := by decide +kernel
theorem dX1_show_27 : decode cX1_show 27 = .ok (.iconst 0, 1) := by decide +kernel
theorem dX1_show_28 : decode cX1_show 28 = .ok (.ireturn, 1) := by decide +kernel
theorem dX1_show_29 : decode cX1_show 29 = .ok (.aload_n 0, 1) := by decide +kernel
theorem dX1_show_30 : decode cX1_show 30 = .ok (.getfield 16, 3) := by decide +kernel
theorem dX1_show_33 : decode cX1_show 33 = .ok (.iconst 4, 1) := by decide +kernel
theorem dX1_show_34 : decode cX1_show 34 = .ok (.iload_n 1, 1) := by decide +kernel
theorem dX1_show_35 : decode cX1_show 35 = .ok (.imul, 1) := by decide +kernel
theorem dX1_show_36 : decode cX1_show 36 = .ok (.iload_n 2, 1) := by decide +kernel
theorem dX1_show_37 : decode cX1_show 37 = .ok (.iadd, 1) := by decide +kernel
theorem dX1_show_38 : decode cX1_show 38 = .ok (.dload_n 3, 1) := by decide +kernel
theorem dX1_show_39 : decode cX1_show 39 = .ok (.dastore, 1) := by decide +kernel
theorem dX1_show_40 : decode cX1_show 40 = .ok (.iconst 1, 1) := by decide +kernel
theorem dX1_show_41 : decode cX1_show 41 = .ok (.ireturn, 1) := by decide +kernel
set_option maxRecDepth 20000 in
theorem ggX1_read_X1_symbol : GoodIn wsX1_read wsX1_symbol := goodIn_r _ [7] (by decide +kernel) (by decide +kernel)
set_option maxRecDepth 20000 in
theorem gX1_read_X1_symbol : GoodIn wsX1_read (va_wsS RX1 54 yX1_symbol wsX1_symbol) := goodIn_app (goodIn_of _ (by decide +kernel)) ggX1_read_X1_symbol
theorem dX1_read_0 : decode cX1_read 0 = .ok (.aload_n 0, 1) := by decide +kernel
theorem dX1_read_1 : decode cX1_read 1 = .ok (.iconst 0, 1) := by decide +kernel
theorem dX1_read_2 : decode cX1_read 2 = .ok (.putfield 40, 3) := by decide +kernel
theorem dX1_read_5 : decode cX1_read 5 = .ok (.iload_n 1, 1) := by decide +kernel
theorem dX1_read_6 : decode cX1_read 6 = .ok (.invokestatic 54, 3) := by decide +kernel
theorem dX1_read_9 : decode cX1_read 9 = .ok (.ifCond .eq 12, 3) := by decide +kernel
theorem dX1_read_12 : decode cX1_read 12 = .ok (.aload_n 0, 1) := by decide +kernel
theorem dX1_read_13 : decode cX1_read 13 = .ok (.getfield 43, 3) := by decide +kernel
theorem dX1_read_16 : decode cX1_read 16 = .ok (.bipush 12, 2) := by decide +kernel
theorem dX1_read_18 : decode cX1_read 18 = .ok (.if_icmp .ne 5, 3) := by decide +kernel
theorem dX1_read_21 : decode cX1_read 21 = .ok (.iconst 0, 1) := by decide +kernel
theorem dX1_read_22 : decode cX1_read 22 = .ok (.ireturn, 1) := by decide +kernel
theorem dX1_read_23 : decode cX1_read 23 = .ok (.aload_n 0, 1) := by decide +kernel
theorem dX1_read_24 : decode cX1_read 24 = .ok (.getfield 19, 3) := by decide +kernel
theorem dX1_read_27 : decode cX1_read 27 = .ok (.aload_n 0, 1) := by decide +kernel
theorem dX1_read_28 : decode cX1_read 28 = .ok (.getfield 43, 3) := by decide +kernel
theorem dX1_read_31 : decode cX1_read 31 = .ok (.iload_n 1, 1) := by decide +kernel
theorem dX1_read_32 : decode cX1_read 32 = .ok (.iastore, 1) := by decide +kernel
theorem dX1_read_33 : decode cX1_read 33 = .ok (.aload_n 0, 1) := by decide +kernel
theorem dX1_read_34 : decode cX1_read 34 = .ok (.aload_n 0, 1) := by decide +kernel
theorem dX1_read_35 : decode cX1_read 35 = .ok (.getfield 43, 3) := by decide +kernel
theorem dX1_read_38 : decode cX1_read 38 = .ok (.iconst 1, 1) := by decide +kernel
theorem dX1_read_39 : decode cX1_read 39 = .ok (.iadd, 1) := by decide +kernel
theorem dX1_read_40 : decode cX1_read 40 = .ok (.putfield 43, 3) := by decide +kernel
theorem dX1_read_43 : decode cX1_read 43 = .ok (.iconst 1, 1) := by decide +kernel
theorem dX1_read_44 : decode cX1_read 44 = .ok (.ireturn, 1) := by decide +kernel
theorem dX1_unread_0 : decode cX1_unread 0 = .ok (.aload_n 0, 1) := by decide +kernel
theorem dX1_unread_1 : decode cX1_unread 1 = .ok (.iconst 0, 1) := by decide +kernel
theorem dX1_unread_2 : decode cX1_unread 2 = .ok (.putfield 40, 3) := by decide +kernel
theorem dX1_unread_5 : decode cX1_unread 5 = .ok (.aload_n 0, 1) := by decide +kernel
theorem dX1_unread_6 : decode cX1_unread 6 = .ok (.getfield 43, 3) := by decide +kernel
theorem dX1_unread_9 : decode cX1_unread 9 = .ok (.ifCond .ne 5, 3) := by decide +kernel
theorem dX1_unread_12 : decode cX1_unread 12 = .ok (.iconst 0, 1) := by decide +kernel
theorem dX1_unread_13 : decode cX1_unread 13 = .ok (.ireturn, 1) := by decide +kernel
theorem dX1_unread_14 : decode cX1_unread 14 = .ok (.aload_n 0, 1) := by decide +kernel
theorem dX1_unread_15 : decode cX1_unread 15 = .ok (.aload_n 0, 1) := by decide +kernel
theorem dX1_unread_16 : decode cX1_unread 16 = .ok (.getfield 43, 3) := by decide +kernel
theorem dX1_unread_19 : decode cX1_unread 19 = .ok (.iconst 1, 1) := by decide +kernel
theorem dX1_unread_20 : decode cX1_unread 20 = .ok (.isub, 1) := by decide +kernel
theorem dX1_unread_21 : decode cX1_unread 21 = .ok (.putfield 43, 3) := by decide +kernel
theorem dX1_unread_24 : decode cX1_unread 24 = .ok (.iconst 1, 1) := by decide +kernel
theorem dX1_unread_25 : decode cX1_unread 25 = .ok (.ireturn, 1) := by decide +kernel
theorem dX1_length_0 : decode cX1_length 0 = .ok (.aload_n 0, 1) := by decide +kernel
theorem dX1_length_1 : decode cX1_length 1 = .ok (.iconst 0, 1) := by decide +kernel
theorem dX1_length_2 : decode cX1_length 2 = .ok (.putfield 40, 3) := by decide +kernel
theorem dX1_length_5 : decode cX1_length 5 = .ok (.aload_n 0, 1) := by decide +kernel
theorem dX1_length_6 : decode cX1_length 6 = .ok (.getfield 43, 3) := by decide +kernel
theorem dX1_length_9 : decode cX1_length 9 = .ok (.ireturn, 1) := by decide +kernel
theorem dX1_shown_0 : decode cX1_shown 0 = .ok (.aload_n 0, 1) := by decide +kernel
theorem dX1_shown_1 : decode cX1_shown 1 = .ok (.getfield 16, 3) := by decide +kernel
theorem dX1_shown_4 : decode cX1_shown 4 = .ok (.iconst 4, 1) := by decide +kernel
theorem dX1_shown_5 : decode cX1_shown 5 = .ok (.iload_n 1, 1) := by decide +kernel
theorem dX1_shown_6 : decode cX1_shown 6 = .ok (.imul, 1) := by decide +kernel
theorem dX1_shown_7 : decode cX1_shown 7 = .ok (.aload_n 0, 1) := by decide +kernel
theorem dX1_shown_8 : decode cX1_shown 8 = .ok (.getfield 19, 3) := by decide +kernel
theorem dX1_shown_11 : decode cX1_shown 11 = .ok (.iload_n 2, 1) := by decide +kernel
theorem dX1_shown_12 : decode cX1_shown 12 = .ok (.iaload, 1) := by decide +kernel
theorem dX1_shown_13 : decode cX1_shown 13 = .ok (.iadd, 1) := by decide +kernel
theorem dX1_shown_14 : decode cX1_shown 14 = .ok (.daload, 1) := by decide +kernel
theorem dX1_shown_15 : decode cX1_shown 15 = .ok (.dreturn, 1) := by decide +kernel
theorem dX1_shift_0 : decode cX1_shift 0 = .ok (.iconst 0, 1) := by decide +kernel
theorem dX1_shift_1 : decode cX1_shift 1 = .ok (.istore_n 1, 1) := by decide +kernel
theorem dX1_shift_2 : decode cX1_shift 2 = .ok (.iload_n 1, 1) := by decide +kernel
theorem dX1_shift_3 : decode cX1_shift 3 = .ok (.bipush 6, 2) := by decide +kernel
theorem dX1_shift_5 : decode cX1_shift 5 = .ok (.if_icmp .ge 21, 3) := by decide +kernel
theorem dX1_shift_8 : decode cX1_shift 8 = .ok (.aload_n 0, 1) := by decide +kernel
theorem dX1_shift_9 : decode cX1_shift 9 = .ok (.getfield 26, 3) := by decide +kernel
theorem dX1_shift_12 : decode cX1_shift 12 = .ok (.iload_n 1, 1) := by decide +kernel
theorem dX1_shift_13 : decode cX1_shift 13 = .ok (.aload_n 0, 1) := by decide +kernel
theorem dX1_shift_14 : decode cX1_shift 14 = .ok (.getfield 23, 3) := by decide +kernel
theorem dX1_shift_17 : decode cX1_shift 17 = .ok (.iload_n 1, 1) := by decide +kernel
theorem dX1_shift_18 : decode cX1_shift 18 = .ok (.daload, 1) := by decide +kernel
theorem dX1_shift_19 : decode cX1_shift 19 = .ok (.dastore, 1) := by decide +kernel
theorem dX1_shift_20 : decode cX1_shift 20 = .ok (.iinc 1 1, 3) := by decide +kernel
theorem dX1_shift_23 : decode cX1_shift 23 = .ok (.goto (-21), 3) := by decide +kernel
theorem dX1_shift_26 : decode cX1_shift 26 = .ok (.return_, 1) := by decide +kernel
set_option maxRecDepth 20000 in
theorem ggX1_ahead_X1_shown : GoodIn wsX1_ahead wsX1_shown := goodIn_r _ [10, 11, 12, 17, 18, 19, 20, 21, 22, 23, 24, 25, 26, 27] (by decide +kernel) (by decide +kernel)
set_option maxRecDepth 20000 in
theorem gX1_ahead_X1_shown : GoodIn wsX1_ahead (wsV RX1 57 RX1 yX1_shown wsX1_shown) := goodIn_app (goodIn_of _ (by decide +kernel)) ggX1_ahead_X1_shown
set_option maxRecDepth 20000 in
theorem ggX1_ahead_X1_shift : GoodIn wsX1_ahead wsX1_shift := goodIn_r _ [16, 4, 2, 17, 18, 19, 20, 21, 22, 23, 24, 25, 26, 27] (by decide +kernel) (by decide +kernel)
set_option maxRecDepth 20000 in
theorem gX1_ahead_X1_shift : GoodIn wsX1_ahead (wsV RX1 61 RX1 yX1_shift wsX1_shift) := goodIn_app (goodIn_of _ (by decide +kernel)) ggX1_ahead_X1_shift
theorem dX1_ahead_0 : decode cX1_ahead 0 = .ok (.iconst 0, 1) := by decide +kernel
theorem dX1_ahead_1 : decode cX1_ahead 1 = .ok (.istore_n 2, 1) := by decide +kernel
theorem dX1_ahead_2 : decode cX1_ahead 2 = .ok (.iload_n 2, 1) := by decide +kernel
theorem dX1_ahead_3 : decode cX1_ahead 3 = .ok (.aload_n 0, 1) := by decide +kernel
theorem dX1_ahead_4 : decode cX1_ahead 4 = .ok (.getfield 36, 3) := by decide +kernel
theorem dX1_ahead_7 : decode cX1_ahead 7 = .ok (.if_icmp .ge 28, 3) := by decide +kernel
theorem dX1_ahead_10 : decode cX1_ahead 10 = .ok (.aload_n 0, 1) := by decide +kernel
theorem dX1_ahead_11 : decode cX1_ahead 11 = .ok (.getfield 23, 3) := by decide +kernel
theorem dX1_ahead_14 : decode cX1_ahead 14 = .ok (.iload_n 2, 1) := by decide +kernel
theorem dX1_ahead_15 : decode cX1_ahead 15 = .ok (.aload_n 0, 1) := by decide +kernel
theorem dX1_ahead_16 : decode cX1_ahead 16 = .ok (.getfield 7, 3) := by decide +kernel
theorem dX1_ahead_19 : decode cX1_ahead 19 = .ok (.iload_n 2, 1) := by decide +kernel
theorem dX1_ahead_20 : decode cX1_ahead 20 = .ok (.daload, 1) := by decide +kernel
theorem dX1_ahead_21 : decode cX1_ahead 21 = .ok (.aload_n 0, 1) := by decide +kernel
theorem dX1_ahead_22 : decode cX1_ahead 22 = .ok (.iload_n 2, 1) := by decide +kernel
theorem dX1_ahead_23 : decode cX1_ahead 23 = .ok (.iconst 0, 1) := by decide +kernel
theorem dX1_ahead_24 : decode cX1_ahead 24 = .ok (.invokevirtual 57, 3) := by decide +kernel
theorem dX1_ahead_27 : decode cX1_ahead 27 = .ok (.dmul, 1) := by decide +kernel
theorem dX1_ahead_28 : decode cX1_ahead 28 = .ok (.dastore, 1) := by decide +kernel
theorem dX1_ahead_29 : decode cX1_ahead 29 = .ok (.iinc 2 1, 3) := by decide +kernel
theorem dX1_ahead_32 : decode cX1_ahead 32 = .ok (.goto (-30), 3) := by decide +kernel
theorem dX1_ahead_35 : decode cX1_ahead 35 = .ok (.iconst 1, 1) := by decide +kernel
theorem dX1_ahead_36 : decode cX1_ahead 36 = .ok (.istore_n 2, 1) := by decide +kernel
theorem dX1_ahead_37 : decode cX1_ahead 37 = .ok (.iload_n 2, 1) := by decide +kernel
theorem dX1_ahead_38 : decode cX1_ahead 38 = .ok (.iload_n 1, 1) := by decide +kernel
theorem dX1_ahead_39 : decode cX1_ahead 39 = .ok (.if_icmp .gt 90, 3) := by decide +kernel
theorem dX1_ahead_42 : decode cX1_ahead 42 = .ok (.aload_n 0, 1) := by decide +kernel
theorem dX1_ahead_43 : decode cX1_ahead 43 = .ok (.invokevirtual 61, 3) := by decide +kernel
theorem dX1_ahead_46 : decode cX1_ahead 46 = .ok (.iconst 0, 1) := by decide +kernel
theorem dX1_ahead_47 : decode cX1_ahead 47 = .ok (.istore_n 3, 1) := by decide +kernel
theorem dX1_ahead_48 : decode cX1_ahead 48 = .ok (.iload_n 3, 1) := by decide +kernel
theorem dX1_ahead_49 : decode cX1_ahead 49 = .ok (.aload_n 0, 1) := by decide +kernel
theorem dX1_ahead_50 : decode cX1_ahead 50 = .ok (.getfield 36, 3) := by decide +kernel
theorem dX1_ahead_53 : decode cX1_ahead 53 = .ok (.if_icmp .ge 70, 3) := by decide +kernel
theorem dX1_ahead_56 : decode cX1_ahead 56 = .ok (.dconst 0, 1) := by decide +kernel
theorem dX1_ahead_57 : decode cX1_ahead 57 = .ok (.dstore 4, 2) := by decide +kernel
theorem dX1_ahead_59 : decode cX1_ahead 59 = .ok (.iconst 0, 1) := by decide +kernel
theorem dX1_ahead_60 : decode cX1_ahead 60 = .ok (.istore 6, 2) := by decide +kernel
theorem dX1_ahead_62 : decode cX1_ahead 62 = .ok (.iload 6, 2) := by decide +kernel
theorem dX1_ahead_64 : decode cX1_ahead 64 = .ok (.aload_n 0, 1) := by decide +kernel
theorem dX1_ahead_65 : decode cX1_ahead 65 = .ok (.getfield 36, 3) := by decide +kernel
theorem dX1_ahead_68 : decode cX1_ahead 68 = .ok (.if_icmp .ge 34, 3) := by decide +kernel
theorem dX1_ahead_71 : decode cX1_ahead 71 = .ok (.dload 4, 2) := by decide +kernel
theorem dX1_ahead_73 : decode cX1_ahead 73 = .ok (.aload_n 0, 1) := by decide +kernel
theorem dX1_ahead_74 : decode cX1_ahead 74 = .ok (.getfield 26, 3) := by decide +kernel
theorem dX1_ahead_77 : decode cX1_ahead 77 = .ok (.iload 6, 2) := by decide +kernel
theorem dX1_ahead_79 : decode cX1_ahead 79 = .ok (.daload, 1) := by decide +kernel
theorem dX1_ahead_80 : decode cX1_ahead 80 = .ok (.aload_n 0, 1) := by decide +kernel
theorem dX1_ahead_81 : decode cX1_ahead 81 = .ok (.getfield 13, 3) := by decide +kernel
theorem dX1_ahead_84 : decode cX1_ahead 84 = .ok (.bipush 6, 2) := by decide +kernel
theorem dX1_ahead_86 : decode cX1_ahead 86 = .ok (.iload 6, 2) := by decide +kernel
theorem dX1_ahead_88 : decode cX1_ahead 88 = .ok (.imul, 1) := by decide +kernel
theorem dX1_ahead_89 : decode cX1_ahead 89 = .ok (.iload_n 3, 1) := by decide +kernel
theorem dX1_ahead_90 : decode cX1_ahead 90 = .ok (.iadd, 1) := by decide +kernel
theorem dX1_ahead_91 : decode cX1_ahead 91 = .ok (.daload, 1) := by decide +kernel
theorem dX1_ahead_92 : decode cX1_ahead 92 = .ok (.dmul, 1) := by decide +kernel
theorem dX1_ahead_93 : decode cX1_ahead 93 = .ok (.dadd, 1) := by decide +kernel
theorem dX1_ahead_94 : decode cX1_ahead 94 = .ok (.dstore 4, 2) := by decide +kernel
theorem dX1_ahead_96 : decode cX1_ahead 96 = .ok (.iinc 6 1, 3) := by decide +kernel
theorem dX1_ahead_99 : decode cX1_ahead 99 = .ok (.goto (-37), 3) := by decide +kernel
theorem dX1_ahead_102 : decode cX1_ahead 102 = .ok (.aload_n 0, 1) := by decide +kernel
theorem dX1_ahead_103 : decode cX1_ahead 103 = .ok (.getfield 23, 3) := by decide +kernel
theorem dX1_ahead_106 : decode cX1_ahead 106 = .ok (.iload_n 3, 1) := by decide +kernel
theorem dX1_ahead_107 : decode cX1_ahead 107 = .ok (.dload 4, 2) := by decide +kernel
theorem dX1_ahead_109 : decode cX1_ahead 109 = .ok (.aload_n 0, 1) := by decide +kernel
theorem dX1_ahead_110 : decode cX1_ahead 110 = .ok (.iload_n 3, 1) := by decide +kernel
theorem dX1_ahead_111 : decode cX1_ahead 111 = .ok (.iload_n 2, 1) := by decide +kernel
theorem dX1_ahead_112 : decode cX1_ahead 112 = .ok (.invokevirtual 57, 3) := by decide +kernel
theorem dX1_ahead_115 : decode cX1_ahead 115 = .ok (.dmul, 1) := by decide +kernel
theorem dX1_ahead_116 : decode cX1_ahead 116 = .ok (.dastore, 1) := by decide +kernel
theorem dX1_ahead_117 : decode cX1_ahead 117 = .ok (.iinc 3 1, 3) := by decide +kernel
theorem dX1_ahead_120 : decode cX1_ahead 120 = .ok (.goto (-72), 3) := by decide +kernel
theorem dX1_ahead_123 : decode cX1_ahead 123 = .ok (.iinc 2 1, 3) := by decide +kernel
theorem dX1_ahead_126 : decode cX1_ahead 126 = .ok (.goto (-89), 3) := by decide +kernel
theorem dX1_ahead_129 : decode cX1_ahead 129 = .ok (.return_, 1) := by decide +kernel
set_option maxRecDepth 20000 in
theorem ggX1_behind_X1_shift : GoodIn wsX1_behind wsX1_shift := goodIn_r _ [10, 5, 2, 17, 18, 19, 20, 21, 22, 23, 24, 25, 26, 27] (by decide +kernel) (by decide +kernel)
set_option maxRecDepth 20000 in
theorem gX1_behind_X1_shift : GoodIn wsX1_behind (wsV RX1 61 RX1 yX1_shift wsX1_shift) := goodIn_app (goodIn_of _ (by decide +kernel)) ggX1_behind_X1_shift
set_option maxRecDepth 20000 in
theorem ggX1_behind_X1_shown : GoodIn wsX1_behind wsX1_shown := goodIn_r _ [14, 15, 16, 17, 18, 19, 20, 21, 22, 23, 24, 25, 26, 27] (by decide +kernel) (by decide +kernel)
set_option maxRecDepth 20000 in
theorem gX1_behind_X1_shown : GoodIn wsX1_behind (wsV RX1 57 RX1 yX1_shown wsX1_shown) := goodIn_app (goodIn_of _ (by decide +kernel)) ggX1_behind_X1_shown
theorem dX1_behind_0 : decode cX1_behind 0 = .ok (.iconst 0, 1) := by decide +kernel
theorem dX1_behind_1 : decode cX1_behind 1 = .ok (.istore_n 2, 1) := by decide +kernel
theorem dX1_behind_2 : decode cX1_behind 2 = .ok (.iload_n 2, 1) := by decide +kernel
theorem dX1_behind_3 : decode cX1_behind 3 = .ok (.aload_n 0, 1) := by decide +kernel
theorem dX1_behind_4 : decode cX1_behind 4 = .ok (.getfield 36, 3) := by decide +kernel
theorem dX1_behind_7 : decode cX1_behind 7 = .ok (.if_icmp .ge 16, 3) := by decide +kernel
theorem dX1_behind_10 : decode cX1_behind 10 = .ok (.aload_n 0, 1) := by decide +kernel
theorem dX1_behind_11 : decode cX1_behind 11 = .ok (.getfield 23, 3) := by decide +kernel
theorem dX1_behind_14 : decode cX1_behind 14 = .ok (.iload_n 2, 1) := by decide +kernel
theorem dX1_behind_15 : decode cX1_behind 15 = .ok (.dconst 1, 1) := by decide +kernel
theorem dX1_behind_16 : decode cX1_behind 16 = .ok (.dastore, 1) := by decide +kernel
theorem dX1_behind_17 : decode cX1_behind 17 = .ok (.iinc 2 1, 3) := by decide +kernel
theorem dX1_behind_20 : decode cX1_behind 20 = .ok (.goto (-18), 3) := by decide +kernel
theorem dX1_behind_23 : decode cX1_behind 23 = .ok (.aload_n 0, 1) := by decide +kernel
theorem dX1_behind_24 : decode cX1_behind 24 = .ok (.getfield 43, 3) := by decide +kernel
theorem dX1_behind_27 : decode cX1_behind 27 = .ok (.iconst 2, 1) := by decide +kernel
theorem dX1_behind_28 : decode cX1_behind 28 = .ok (.isub, 1) := by decide +kernel
theorem dX1_behind_29 : decode cX1_behind 29 = .ok (.istore_n 2, 1) := by decide +kernel
theorem dX1_behind_30 : decode cX1_behind 30 = .ok (.iload_n 2, 1) := by decide +kernel
theorem dX1_behind_31 : decode cX1_behind 31 = .ok (.iload_n 1, 1) := by decide +kernel
theorem dX1_behind_32 : decode cX1_behind 32 = .ok (.if_icmp .lt 93, 3) := by decide +kernel
theorem dX1_behind_35 : decode cX1_behind 35 = .ok (.aload_n 0, 1) := by decide +kernel
theorem dX1_behind_36 : decode cX1_behind 36 = .ok (.invokevirtual 61, 3) := by decide +kernel
theorem dX1_behind_39 : decode cX1_behind 39 = .ok (.iconst 0, 1) := by decide +kernel
theorem dX1_behind_40 : decode cX1_behind 40 = .ok (.istore_n 3, 1) := by decide +kernel
theorem dX1_behind_41 : decode cX1_behind 41 = .ok (.iload_n 3, 1) := by decide +kernel
theorem dX1_behind_42 : decode cX1_behind 42 = .ok (.aload_n 0, 1) := by decide +kernel
theorem dX1_behind_43 : decode cX1_behind 43 = .ok (.getfield 36, 3) := by decide +kernel
theorem dX1_behind_46 : decode cX1_behind 46 = .ok (.if_icmp .ge 73, 3) := by decide +kernel
theorem dX1_behind_49 : decode cX1_behind 49 = .ok (.dconst 0, 1) := by decide +kernel
theorem dX1_behind_50 : decode cX1_behind 50 = .ok (.dstore 4, 2) := by decide +kernel
theorem dX1_behind_52 : decode cX1_behind 52 = .ok (.iconst 0, 1) := by decide +kernel
theorem dX1_behind_53 : decode cX1_behind 53 = .ok (.istore 6, 2) := by decide +kernel
theorem dX1_behind_55 : decode cX1_behind 55 = .ok (.iload 6, 2) := by decide +kernel
theorem dX1_behind_57 : decode cX1_behind 57 = .ok (.aload_n 0, 1) := by decide +kernel
theorem dX1_behind_58 : decode cX1_behind 58 = .ok (.getfield 36, 3) := by decide +kernel
theorem dX1_behind_61 : decode cX1_behind 61 = .ok (.if_icmp .ge 44, 3) := by decide +kernel
theorem dX1_behind_64 : decode cX1_behind 64 = .ok (.dload 4, 2) := by decide +kernel
theorem dX1_behind_66 : decode cX1_behind 66 = .ok (.aload_n 0, 1) := by decide +kernel
theorem dX1_behind_67 : decode cX1_behind 67 = .ok (.getfield 13, 3) := by decide +kernel
theorem dX1_behind_70 : decode cX1_behind 70 = .ok (.bipush 6, 2) := by decide +kernel
theorem dX1_behind_72 : decode cX1_behind 72 = .ok (.iload_n 3, 1) := by decide +kernel
theorem dX1_behind_73 : decode cX1_behind 73 = .ok (.imul, 1) := by decide +kernel
theorem dX1_behind_74 : decode cX1_behind 74 = .ok (.iload 6, 2) := by decide +kernel
theorem dX1_behind_76 : decode cX1_behind 76 = .ok (.iadd, 1) := by decide +kernel
theorem dX1_behind_77 : decode cX1_behind 77 = .ok (.daload, 1) := by decide +kernel
theorem dX1_behind_78 : decode cX1_behind 78 = .ok (.aload_n 0, 1) := by decide +kernel
theorem dX1_behind_79 : decode cX1_behind 79 = .ok (.iload 6, 2) := by decide +kernel
theorem dX1_behind_81 : decode cX1_behind 81 = .ok (.iload_n 2, 1) := by decide +kernel
theorem dX1_behind_82 : decode cX1_behind 82 = .ok (.iconst 1, 1) := by decide +kernel
theorem dX1_behind_83 : decode cX1_behind 83 = .ok (.iadd, 1) := by decide +kernel
theorem dX1_behind_84 : decode cX1_behind 84 = .ok (.invokevirtual 57, 3) := by decide +kernel
theorem dX1_behind_87 : decode cX1_behind 87 = .ok (.dmul, 1) := by decide +kernel
theorem dX1_behind_88 : decode cX1_behind 88 = .ok (.aload_n 0, 1) := by decide +kernel
theorem dX1_behind_89 : decode cX1_behind 89 = .ok (.getfield 26, 3) := by decide +kernel
theorem dX1_behind_92 : decode cX1_behind 92 = .ok (.iload 6, 2) := by decide +kernel
theorem dX1_behind_94 : decode cX1_behind 94 = .ok (.daload, 1) := by decide +kernel
theorem dX1_behind_95 : decode cX1_behind 95 = .ok (.dmul, 1) := by decide +kernel
theorem dX1_behind_96 : decode cX1_behind 96 = .ok (.dadd, 1) := by decide +kernel
theorem dX1_behind_97 : decode cX1_behind 97 = .ok (.dstore 4, 2) := by decide +kernel
theorem dX1_behind_99 : decode cX1_behind 99 = .ok (.iinc 6 1, 3) := by decide +kernel
theorem dX1_behind_102 : decode cX1_behind 102 = .ok (.goto (-47), 3) := by decide +kernel
theorem dX1_behind_105 : decode cX1_behind 105 = .ok (.aload_n 0, 1) := by decide +kernel
theorem dX1_behind_106 : decode cX1_behind 106 = .ok (.getfield 23, 3) := by decide +kernel
theorem dX1_behind_109 : decode cX1_behind 109 = .ok (.iload_n 3, 1) := by decide +kernel
theorem dX1_behind_110 : decode cX1_behind 110 = .ok (.dload 4, 2) := by decide +kernel
theorem dX1_behind_112 : decode cX1_behind 112 = .ok (.dastore, 1) := by decide +kernel
theorem dX1_behind_113 : decode cX1_behind 113 = .ok (.iinc 3 1, 3) := by decide +kernel
theorem dX1_behind_116 : decode cX1_behind 116 = .ok (.goto (-75), 3) := by decide +kernel
theorem dX1_behind_119 : decode cX1_behind 119 = .ok (.iinc 2 (-1), 3) := by decide +kernel
theorem dX1_behind_122 : decode cX1_behind 122 = .ok (.goto (-92), 3) := by decide +kernel
theorem dX1_behind_125 : decode cX1_behind 125 = .ok (.return_, 1) := by decide +kernel
set_option maxRecDepth 20000 in
theorem ggX1_greatest_X1_shown : GoodIn wsX1_greatest wsX1_shown := goodIn_r _ [10, 11, 12, 21, 22, 23, 24, 25, 26, 27, 28, 29, 30, 31] (by decide +kernel) (by decide +kernel)
set_option maxRecDepth 20000 in
theorem gX1_greatest_X1_shown : GoodIn wsX1_greatest (wsV RX1 57 RX1 yX1_shown wsX1_shown) := goodIn_app (goodIn_of _ (by decide +kernel)) ggX1_greatest_X1_shown
set_option maxRecDepth 20000 in
theorem ggX1_greatest_X1_shift : GoodIn wsX1_greatest wsX1_shift := goodIn_r _ [16, 4, 2, 21, 22, 23, 24, 25, 26, 27, 28, 29, 30, 31] (by decide +kernel) (by decide +kernel)
set_option maxRecDepth 20000 in
theorem gX1_greatest_X1_shift : GoodIn wsX1_greatest (wsV RX1 61 RX1 yX1_shift wsX1_shift) := goodIn_app (goodIn_of _ (by decide +kernel)) ggX1_greatest_X1_shift
set_option maxRecDepth 20000 in
theorem ggX1_greatest_X1_from : GoodIn wsX1_greatest wsX1_from := goodIn_r _ [20, 1, 4, 5, 21, 22, 23, 24, 25, 26, 27, 28, 29, 30, 31] (by decide +kernel) (by decide +kernel)
set_option maxRecDepth 20000 in
theorem gX1_greatest_X1_from : GoodIn wsX1_greatest (wsV RX1 64 RX1 yX1_from wsX1_from) := goodIn_app (goodIn_of _ (by decide +kernel)) ggX1_greatest_X1_from
theorem dX1_greatest_0 : decode cX1_greatest 0 = .ok (.iconst 0, 1) := by decide +kernel
theorem dX1_greatest_1 : decode cX1_greatest 1 = .ok (.istore_n 2, 1) := by decide +kernel
theorem dX1_greatest_2 : decode cX1_greatest 2 = .ok (.iload_n 2, 1) := by decide +kernel
theorem dX1_greatest_3 : decode cX1_greatest 3 = .ok (.aload_n 0, 1) := by decide +kernel
theorem dX1_greatest_4 : decode cX1_greatest 4 = .ok (.getfield 36, 3) := by decide +kernel
theorem dX1_greatest_7 : decode cX1_greatest 7 = .ok (.if_icmp .ge 28, 3) := by decide +kernel
theorem dX1_greatest_10 : decode cX1_greatest 10 = .ok (.aload_n 0, 1) := by decide +kernel
theorem dX1_greatest_11 : decode cX1_greatest 11 = .ok (.getfield 23, 3) := by decide +kernel
theorem dX1_greatest_14 : decode cX1_greatest 14 = .ok (.iload_n 2, 1) := by decide +kernel
theorem dX1_greatest_15 : decode cX1_greatest 15 = .ok (.aload_n 0, 1) := by decide +kernel
theorem dX1_greatest_16 : decode cX1_greatest 16 = .ok (.getfield 7, 3) := by decide +kernel
theorem dX1_greatest_19 : decode cX1_greatest 19 = .ok (.iload_n 2, 1) := by decide +kernel
theorem dX1_greatest_20 : decode cX1_greatest 20 = .ok (.daload, 1) := by decide +kernel
theorem dX1_greatest_21 : decode cX1_greatest 21 = .ok (.aload_n 0, 1) := by decide +kernel
theorem dX1_greatest_22 : decode cX1_greatest 22 = .ok (.iload_n 2, 1) := by decide +kernel
theorem dX1_greatest_23 : decode cX1_greatest 23 = .ok (.iconst 0, 1) := by decide +kernel
theorem dX1_greatest_24 : decode cX1_greatest 24 = .ok (.invokevirtual 57, 3) := by decide +kernel
theorem dX1_greatest_27 : decode cX1_greatest 27 = .ok (.dmul, 1) := by decide +kernel
theorem dX1_greatest_28 : decode cX1_greatest 28 = .ok (.dastore, 1) := by decide +kernel
theorem dX1_greatest_29 : decode cX1_greatest 29 = .ok (.iinc 2 1, 3) := by decide +kernel
theorem dX1_greatest_32 : decode cX1_greatest 32 = .ok (.goto (-30), 3) := by decide +kernel
theorem dX1_greatest_35 : decode cX1_greatest 35 = .ok (.iconst 1, 1) := by decide +kernel
theorem dX1_greatest_36 : decode cX1_greatest 36 = .ok (.istore_n 2, 1) := by decide +kernel
theorem dX1_greatest_37 : decode cX1_greatest 37 = .ok (.iload_n 2, 1) := by decide +kernel
theorem dX1_greatest_38 : decode cX1_greatest 38 = .ok (.iload_n 1, 1) := by decide +kernel
theorem dX1_greatest_39 : decode cX1_greatest 39 = .ok (.if_icmp .gt 68, 3) := by decide +kernel
theorem dX1_greatest_42 : decode cX1_greatest 42 = .ok (.aload_n 0, 1) := by decide +kernel
theorem dX1_greatest_43 : decode cX1_greatest 43 = .ok (.invokevirtual 61, 3) := by decide +kernel
theorem dX1_greatest_46 : decode cX1_greatest 46 = .ok (.iconst 0, 1) := by decide +kernel
theorem dX1_greatest_47 : decode cX1_greatest 47 = .ok (.istore_n 3, 1) := by decide +kernel
theorem dX1_greatest_48 : decode cX1_greatest 48 = .ok (.iload_n 3, 1) := by decide +kernel
theorem dX1_greatest_49 : decode cX1_greatest 49 = .ok (.aload_n 0, 1) := by decide +kernel
theorem dX1_greatest_50 : decode cX1_greatest 50 = .ok (.getfield 36, 3) := by decide +kernel
theorem dX1_greatest_53 : decode cX1_greatest 53 = .ok (.if_icmp .ge 48, 3) := by decide +kernel
theorem dX1_greatest_56 : decode cX1_greatest 56 = .ok (.aload_n 0, 1) := by decide +kernel
theorem dX1_greatest_57 : decode cX1_greatest 57 = .ok (.getfield 23, 3) := by decide +kernel
theorem dX1_greatest_60 : decode cX1_greatest 60 = .ok (.iload_n 3, 1) := by decide +kernel
theorem dX1_greatest_61 : decode cX1_greatest 61 = .ok (.aload_n 0, 1) := by decide +kernel
theorem dX1_greatest_62 : decode cX1_greatest 62 = .ok (.getfield 26, 3) := by decide +kernel
theorem dX1_greatest_65 : decode cX1_greatest 65 = .ok (.aload_n 0, 1) := by decide +kernel
theorem dX1_greatest_66 : decode cX1_greatest 66 = .ok (.iload_n 3, 1) := by decide +kernel
theorem dX1_greatest_67 : decode cX1_greatest 67 = .ok (.invokevirtual 64, 3) := by decide +kernel
theorem dX1_greatest_70 : decode cX1_greatest 70 = .ok (.daload, 1) := by decide +kernel
theorem dX1_greatest_71 : decode cX1_greatest 71 = .ok (.aload_n 0, 1) := by decide +kernel
theorem dX1_greatest_72 : decode cX1_greatest 72 = .ok (.getfield 13, 3) := by decide +kernel
theorem dX1_greatest_75 : decode cX1_greatest 75 = .ok (.bipush 6, 2) := by decide +kernel
theorem dX1_greatest_77 : decode cX1_greatest 77 = .ok (.aload_n 0, 1) := by decide +kernel
theorem dX1_greatest_78 : decode cX1_greatest 78 = .ok (.iload_n 3, 1) := by decide +kernel
theorem dX1_greatest_79 : decode cX1_greatest 79 = .ok (.invokevirtual 64, 3) := by decide +kernel
theorem dX1_greatest_82 : decode cX1_greatest 82 = .ok (.imul, 1) := by decide +kernel
theorem dX1_greatest_83 : decode cX1_greatest 83 = .ok (.iload_n 3, 1) := by decide +kernel
theorem dX1_greatest_84 : decode cX1_greatest 84 = .ok (.iadd, 1) := by decide +kernel
theorem dX1_greatest_85 : decode cX1_greatest 85 = .ok (.daload, 1) := by decide +kernel
theorem dX1_greatest_86 : decode cX1_greatest 86 = .ok (.dmul, 1) := by decide +kernel
theorem dX1_greatest_87 : decode cX1_greatest 87 = .ok (.aload_n 0, 1) := by decide +kernel
theorem dX1_greatest_88 : decode cX1_greatest 88 = .ok (.iload_n 3, 1) := by decide +kernel
theorem dX1_greatest_89 : decode cX1_greatest 89 = .ok (.iload_n 2, 1) := by decide +kernel
theorem dX1_greatest_90 : decode cX1_greatest 90 = .ok (.invokevirtual 57, 3) := by decide +kernel
theorem dX1_greatest_93 : decode cX1_greatest 93 = .ok (.dmul, 1) := by decide +kernel
theorem dX1_greatest_94 : decode cX1_greatest 94 = .ok (.dastore, 1) := by decide +kernel
theorem dX1_greatest_95 : decode cX1_greatest 95 = .ok (.iinc 3 1, 3) := by decide +kernel
theorem dX1_greatest_98 : decode cX1_greatest 98 = .ok (.goto (-50), 3) := by decide +kernel
theorem dX1_greatest_101 : decode cX1_greatest 101 = .ok (.iinc 2 1, 3) := by decide +kernel
theorem dX1_greatest_104 : decode cX1_greatest 104 = .ok (.goto (-67), 3) := by decide +kernel
theorem dX1_greatest_107 : decode cX1_greatest 107 = .ok (.return_, 1) := by decide +kernel
theorem dX1_from_0 : decode cX1_from 0 = .ok (.iconst 0, 1) := by decide +kernel
theorem dX1_from_1 : decode cX1_from 1 = .ok (.istore_n 2, 1) := by decide +kernel
theorem dX1_from_2 : decode cX1_from 2 = .ok (.iconst 1, 1) := by decide +kernel
theorem dX1_from_3 : decode cX1_from 3 = .ok (.istore_n 3, 1) := by decide +kernel
theorem dX1_from_4 : decode cX1_from 4 = .ok (.iload_n 3, 1) := by decide +kernel
theorem dX1_from_5 : decode cX1_from 5 = .ok (.aload_n 0, 1) := by decide +kernel
theorem dX1_from_6 : decode cX1_from 6 = .ok (.getfield 36, 3) := by decide +kernel
theorem dX1_from_9 : decode cX1_from 9 = .ok (.if_icmp .ge 51, 3) := by decide +kernel
theorem dX1_from_12 : decode cX1_from 12 = .ok (.aload_n 0, 1) := by decide +kernel
theorem dX1_from_13 : decode cX1_from 13 = .ok (.getfield 26, 3) := by decide +kernel
theorem dX1_from_16 : decode cX1_from 16 = .ok (.iload_n 3, 1) := by decide +kernel
theorem dX1_from_17 : decode cX1_from 17 = .ok (.daload, 1) := by decide +kernel
theorem dX1_from_18 : decode cX1_from 18 = .ok (.aload_n 0, 1) := by decide +kernel
theorem dX1_from_19 : decode cX1_from 19 = .ok (.getfield 13, 3) := by decide +kernel
theorem dX1_from_22 : decode cX1_from 22 = .ok (.bipush 6, 2) := by decide +kernel
theorem dX1_from_24 : decode cX1_from 24 = .ok (.iload_n 3, 1) := by decide +kernel
theorem dX1_from_25 : decode cX1_from 25 = .ok (.imul, 1) := by decide +kernel
theorem dX1_from_26 : decode cX1_from 26 = .ok (.iload_n 1, 1) := by decide +kernel
theorem dX1_from_27 : decode cX1_from 27 = .ok (.iadd, 1) := by decide +kernel
theorem dX1_from_28 : decode cX1_from 28 = .ok (.daload, 1) := by decide +kernel
theorem dX1_from_29 : decode cX1_from 29 = .ok (.dmul, 1) := by decide +kernel
theorem dX1_from_30 : decode cX1_from 30 = .ok (.aload_n 0, 1) := by decide +kernel
theorem dX1_from_31 : decode cX1_from 31 = .ok (.getfield 26, 3) := by decide +kernel
theorem dX1_from_34 : decode cX1_from 34 = .ok (.iload_n 2, 1) := by decide +kernel
theorem dX1_from_35 : decode cX1_from 35 = .ok (.daload, 1) := by decide +kernel
theorem dX1_from_36 : decode cX1_from 36 = .ok (.aload_n 0, 1) := by decide +kernel
theorem dX1_from_37 : decode cX1_from 37 = .ok (.getfield 13, 3) := by decide +kernel
theorem dX1_from_40 : decode cX1_from 40 = .ok (.bipush 6, 2) := by decide +kernel
theorem dX1_from_42 : decode cX1_from 42 = .ok (.iload_n 2, 1) := by decide +kernel
theorem dX1_from_43 : decode cX1_from 43 = .ok (.imul, 1) := by decide +kernel
theorem dX1_from_44 : decode cX1_from 44 = .ok (.iload_n 1, 1) := by decide +kernel
theorem dX1_from_45 : decode cX1_from 45 = .ok (.iadd, 1) := by decide +kernel
theorem dX1_from_46 : decode cX1_from 46 = .ok (.daload, 1) := by decide +kernel
theorem dX1_from_47 : decode cX1_from 47 = .ok (.dmul, 1) := by decide +kernel
theorem dX1_from_48 : decode cX1_from 48 = .ok (.dcmp .l, 1) := by decide +kernel
theorem dX1_from_49 : decode cX1_from 49 = .ok (.ifCond .le 5, 3) := by decide +kernel
theorem dX1_from_52 : decode cX1_from 52 = .ok (.iload_n 3, 1) := by decide +kernel
theorem dX1_from_53 : decode cX1_from 53 = .ok (.istore_n 2, 1) := by decide +kernel
theorem dX1_from_54 : decode cX1_from 54 = .ok (.iinc 3 1, 3) := by decide +kernel
theorem dX1_from_57 : decode cX1_from 57 = .ok (.goto (-53), 3) := by decide +kernel
theorem dX1_from_60 : decode cX1_from 60 = .ok (.iload_n 2, 1) := by decide +kernel
theorem dX1_from_61 : decode cX1_from 61 = .ok (.ireturn, 1) := by decide +kernel
set_option maxRecDepth 20000 in
theorem ggX1_fault_X1_state : GoodIn wsX1_fault wsX1_state := goodIn_r _ [6, 7, 8, 9, 10, 11, 12, 13, 14, 15, 16, 17, 18] (by decide +kernel) (by decide +kernel)
set_option maxRecDepth 20000 in
theorem gX1_fault_X1_state : GoodIn wsX1_fault (wsV RX1 46 RX1 yX1_state wsX1_state) := goodIn_app (goodIn_of _ (by decide +kernel)) ggX1_fault_X1_state
theorem dX1_fault_0 : decode cX1_fault 0 = .ok (.iload_n 1, 1) := by decide +kernel
theorem dX1_fault_1 : decode cX1_fault 1 = .ok (.ifCond .lt 11, 3) := by decide +kernel
theorem dX1_fault_4 : decode cX1_fault 4 = .ok (.iload_n 1, 1) := by decide +kernel
theorem dX1_fault_5 : decode cX1_fault 5 = .ok (.aload_n 0, 1) := by decide +kernel
theorem dX1_fault_6 : decode cX1_fault 6 = .ok (.getfield 43, 3) := by decide +kernel
theorem dX1_fault_9 : decode cX1_fault 9 = .ok (.if_icmp .lt 7, 3) := by decide +kernel
theorem dX1_fault_12 : decode cX1_fault 12 = .ok (.iconst 1, 1) := by decide +kernel
theorem dX1_fault_13 : decode cX1_fault 13 = .ok (.goto 16, 3) := by decide +kernel
theorem dX1_fault_16 : decode cX1_fault 16 = .ok (.aload_n 0, 1) := by decide +kernel
theorem dX1_fault_17 : decode cX1_fault 17 = .ok (.iload_n 2, 1) := by decide +kernel
theorem dX1_fault_18 : decode cX1_fault 18 = .ok (.invokevirtual 46, 3) := by decide +kernel
theorem dX1_fault_21 : decode cX1_fault 21 = .ok (.ifCond .eq 7, 3) := by decide +kernel
theorem dX1_fault_24 : decode cX1_fault 24 = .ok (.iconst 0, 1) := by decide +kernel
theorem dX1_fault_25 : decode cX1_fault 25 = .ok (.goto 4, 3) := by decide +kernel
theorem dX1_fault_28 : decode cX1_fault 28 = .ok (.iconst 2, 1) := by decide +kernel
theorem dX1_fault_29 : decode cX1_fault 29 = .ok (.ireturn, 1) := by decide +kernel
set_option maxRecDepth 20000 in
theorem ggX1_forward_X1_fault : GoodIn wsX1_forward wsX1_fault := goodIn_r _ [7, 8, 9, 10, 11, 6, 12, 13, 31, 32, 33, 34, 35, 36, 37, 38, 39, 40, 41] (by decide +kernel) (by decide +kernel)
set_option maxRecDepth 20000 in
theorem gX1_forward_X1_fault : GoodIn wsX1_forward (wsV RX1 68 RX1 yX1_fault wsX1_fault) := goodIn_app (goodIn_of _ (by decide +kernel)) ggX1_forward_X1_fault
set_option maxRecDepth 20000 in
theorem ggX1_forward_X1_ahead : GoodIn wsX1_forward wsX1_ahead := goodIn_r _ [17, 13, 2, 18, 19, 20, 21, 22, 23, 6, 24, 25, 26, 27, 28, 29, 30, 31, 32, 33, 34, 35, 36, 37, 38, 39, 40, 41] (by decide +kernel) (by decide +kernel)
set_option maxRecDepth 20000 in
theorem gX1_forward_X1_ahead : GoodIn wsX1_forward (wsV RX1 72 RX1 yX1_ahead wsX1_ahead) := goodIn_app (goodIn_of _ (by decide +kernel)) ggX1_forward_X1_ahead
theorem dX1_forward_0 : decode cX1_forward 0 = .ok (.aload_n 0, 1) := by decide +kernel
theorem dX1_forward_1 : decode cX1_forward 1 = .ok (.aload_n 0, 1) := by decide +kernel
theorem dX1_forward_2 : decode cX1_forward 2 = .ok (.iload_n 1, 1) := by decide +kernel
theorem dX1_forward_3 : decode cX1_forward 3 = .ok (.iload_n 2, 1) := by decide +kernel
theorem dX1_forward_4 : decode cX1_forward 4 = .ok (.invokevirtual 68, 3) := by decide +kernel
theorem dX1_forward_7 : decode cX1_forward 7 = .ok (.putfield 40, 3) := by decide +kernel
theorem dX1_forward_10 : decode cX1_forward 10 = .ok (.aload_n 0, 1) := by decide +kernel
theorem dX1_forward_11 : decode cX1_forward 11 = .ok (.getfield 40, 3) := by decide +kernel
theorem dX1_forward_14 : decode cX1_forward 14 = .ok (.ifCond .le 5, 3) := by decide +kernel
theorem dX1_forward_17 : decode cX1_forward 17 = .ok (.dconst 0, 1) := by decide +kernel
theorem dX1_forward_18 : decode cX1_forward 18 = .ok (.dreturn, 1) := by decide +kernel
theorem dX1_forward_19 : decode cX1_forward 19 = .ok (.aload_n 0, 1) := by decide +kernel
theorem dX1_forward_20 : decode cX1_forward 20 = .ok (.iload_n 1, 1) := by decide +kernel
theorem dX1_forward_21 : decode cX1_forward 21 = .ok (.invokevirtual 72, 3) := by decide +kernel
theorem dX1_forward_24 : decode cX1_forward 24 = .ok (.aload_n 0, 1) := by decide +kernel
theorem dX1_forward_25 : decode cX1_forward 25 = .ok (.getfield 23, 3) := by decide +kernel
theorem dX1_forward_28 : decode cX1_forward 28 = .ok (.iload_n 2, 1) := by decide +kernel
theorem dX1_forward_29 : decode cX1_forward 29 = .ok (.daload, 1) := by decide +kernel
theorem dX1_forward_30 : decode cX1_forward 30 = .ok (.dreturn, 1) := by decide +kernel
set_option maxRecDepth 20000 in
theorem ggX1_backward_X1_fault : GoodIn wsX1_backward wsX1_fault := goodIn_r _ [7, 8, 9, 10, 11, 6, 12, 13, 30, 31, 32, 33, 34, 35, 36, 37, 38, 39, 40] (by decide +kernel) (by decide +kernel)
set_option maxRecDepth 20000 in
theorem gX1_backward_X1_fault : GoodIn wsX1_backward (wsV RX1 68 RX1 yX1_fault wsX1_fault) := goodIn_app (goodIn_of _ (by decide +kernel)) ggX1_backward_X1_fault
set_option maxRecDepth 20000 in
theorem ggX1_backward_X1_behind : GoodIn wsX1_backward wsX1_behind := goodIn_r _ [17, 13, 2, 8, 18, 19, 20, 21, 22, 6, 23, 24, 25, 26, 27, 28, 29, 30, 31, 32, 33, 34, 35, 36, 37, 38, 39, 40] (by decide +kernel) (by decide +kernel)
set_option maxRecDepth 20000 in
theorem gX1_backward_X1_behind : GoodIn wsX1_backward (wsV RX1 76 RX1 yX1_behind wsX1_behind) := goodIn_app (goodIn_of _ (by decide +kernel)) ggX1_backward_X1_behind
theorem dX1_backward_0 : decode cX1_backward 0 = .ok (.aload_n 0, 1) := by decide +kernel
theorem dX1_backward_1 : decode cX1_backward 1 = .ok (.aload_n 0, 1) := by decide +kernel
theorem dX1_backward_2 : decode cX1_backward 2 = .ok (.iload_n 1, 1) := by decide +kernel
theorem dX1_backward_3 : decode cX1_backward 3 = .ok (.iload_n 2, 1) := by decide +kernel
theorem dX1_backward_4 : decode cX1_backward 4 = .ok (.invokevirtual 68, 3) := by decide +kernel
theorem dX1_backward_7 : decode cX1_backward 7 = .ok (.putfield 40, 3) := by decide +kernel
theorem dX1_backward_10 : decode cX1_backward 10 = .ok (.aload_n 0, 1) := by decide +kernel
theorem dX1_backward_11 : decode cX1_backward 11 = .ok (.getfield 40, 3) := by decide +kernel
theorem dX1_backward_14 : decode cX1_backward 14 = .ok (.ifCond .le 5, 3) := by decide +kernel
theorem dX1_backward_17 : decode cX1_backward 17 = .ok (.dconst 0, 1) := by decide +kernel
theorem dX1_backward_18 : decode cX1_backward 18 = .ok (.dreturn, 1) := by decide +kernel
theorem dX1_backward_19 : decode cX1_backward 19 = .ok (.aload_n 0, 1) := by decide +kernel
theorem dX1_backward_20 : decode cX1_backward 20 = .ok (.iload_n 1, 1) := by decide +kernel
theorem dX1_backward_21 : decode cX1_backward 21 = .ok (.invokevirtual 76, 3) := by decide +kernel
theorem dX1_backward_24 : decode cX1_backward 24 = .ok (.aload_n 0, 1) := by decide +kernel
theorem dX1_backward_25 : decode cX1_backward 25 = .ok (.getfield 23, 3) := by decide +kernel
theorem dX1_backward_28 : decode cX1_backward 28 = .ok (.iload_n 2, 1) := by decide +kernel
theorem dX1_backward_29 : decode cX1_backward 29 = .ok (.daload, 1) := by decide +kernel
theorem dX1_backward_30 : decode cX1_backward 30 = .ok (.dreturn, 1) := by decide +kernel
set_option maxRecDepth 20000 in
theorem ggX1_all_X1_ahead : GoodIn wsX1_all wsX1_ahead := goodIn_r _ [8, 2, 3, 9, 10, 11, 12, 13, 14, 7, 15, 16, 17, 18, 19, 20, 21, 22, 23, 24, 25, 26, 27, 28, 29, 30, 31, 32] (by decide +kernel) (by decide +kernel)
set_option maxRecDepth 20000 in
theorem gX1_all_X1_ahead : GoodIn wsX1_all (wsV RX1 72 RX1 yX1_ahead wsX1_ahead) := goodIn_app (goodIn_of _ (by decide +kernel)) ggX1_all_X1_ahead
theorem dX1_all_0 : decode cX1_all 0 = .ok (.aload_n 0, 1) := by decide +kernel
theorem dX1_all_1 : decode cX1_all 1 = .ok (.getfield 43, 3) := by decide +kernel
theorem dX1_all_4 : decode cX1_all 4 = .ok (.ifCond .ne 5, 3) := by decide +kernel
theorem dX1_all_7 : decode cX1_all 7 = .ok (.dconst 1, 1) := by decide +kernel
theorem dX1_all_8 : decode cX1_all 8 = .ok (.dreturn, 1) := by decide +kernel
theorem dX1_all_9 : decode cX1_all 9 = .ok (.aload_n 0, 1) := by decide +kernel
theorem dX1_all_10 : decode cX1_all 10 = .ok (.aload_n 0, 1) := by decide +kernel
theorem dX1_all_11 : decode cX1_all 11 = .ok (.getfield 43, 3) := by decide +kernel
theorem dX1_all_14 : decode cX1_all 14 = .ok (.iconst 1, 1) := by decide +kernel
theorem dX1_all_15 : decode cX1_all 15 = .ok (.isub, 1) := by decide +kernel
theorem dX1_all_16 : decode cX1_all 16 = .ok (.invokevirtual 72, 3) := by decide +kernel
theorem dX1_all_19 : decode cX1_all 19 = .ok (.dconst 0, 1) := by decide +kernel
theorem dX1_all_20 : decode cX1_all 20 = .ok (.dstore_n 1, 1) := by decide +kernel
theorem dX1_all_21 : decode cX1_all 21 = .ok (.iconst 0, 1) := by decide +kernel
theorem dX1_all_22 : decode cX1_all 22 = .ok (.istore_n 3, 1) := by decide +kernel
theorem dX1_all_23 : decode cX1_all 23 = .ok (.iload_n 3, 1) := by decide +kernel
theorem dX1_all_24 : decode cX1_all 24 = .ok (.aload_n 0, 1) := by decide +kernel
theorem dX1_all_25 : decode cX1_all 25 = .ok (.getfield 36, 3) := by decide +kernel
theorem dX1_all_28 : decode cX1_all 28 = .ok (.if_icmp .ge 18, 3) := by decide +kernel
theorem dX1_all_31 : decode cX1_all 31 = .ok (.dload_n 1, 1) := by decide +kernel
theorem dX1_all_32 : decode cX1_all 32 = .ok (.aload_n 0, 1) := by decide +kernel
theorem dX1_all_33 : decode cX1_all 33 = .ok (.getfield 23, 3) := by decide +kernel
theorem dX1_all_36 : decode cX1_all 36 = .ok (.iload_n 3, 1) := by decide +kernel
theorem dX1_all_37 : decode cX1_all 37 = .ok (.daload, 1) := by decide +kernel
theorem dX1_all_38 : decode cX1_all 38 = .ok (.dadd, 1) := by decide +kernel
theorem dX1_all_39 : decode cX1_all 39 = .ok (.dstore_n 1, 1) := by decide +kernel
theorem dX1_all_40 : decode cX1_all 40 = .ok (.iinc 3 1, 3) := by decide +kernel
theorem dX1_all_43 : decode cX1_all 43 = .ok (.goto (-20), 3) := by decide +kernel
theorem dX1_all_46 : decode cX1_all 46 = .ok (.dload_n 1, 1) := by decide +kernel
theorem dX1_all_47 : decode cX1_all 47 = .ok (.dreturn, 1) := by decide +kernel
set_option maxRecDepth 20000 in
theorem ggX1_total_X1_all : GoodIn wsX1_total wsX1_all := goodIn_r _ [6, 7, 8, 9, 10, 11, 12, 5, 13, 14, 15, 16, 17, 18, 19, 20, 21, 22, 23, 24, 25, 26, 27, 28, 29, 30, 31, 32, 33, 34, 35, 36, 37] (by decide +kernel) (by decide +kernel)
set_option maxRecDepth 20000 in
theorem gX1_total_X1_all : GoodIn wsX1_total (wsV RX1 79 RX1 yX1_all wsX1_all) := goodIn_app (goodIn_of _ (by decide +kernel)) ggX1_total_X1_all
theorem dX1_total_0 : decode cX1_total 0 = .ok (.aload_n 0, 1) := by decide +kernel
theorem dX1_total_1 : decode cX1_total 1 = .ok (.iconst 0, 1) := by decide +kernel
theorem dX1_total_2 : decode cX1_total 2 = .ok (.putfield 40, 3) := by decide +kernel
theorem dX1_total_5 : decode cX1_total 5 = .ok (.aload_n 0, 1) := by decide +kernel
theorem dX1_total_6 : decode cX1_total 6 = .ok (.invokevirtual 79, 3) := by decide +kernel
theorem dX1_total_9 : decode cX1_total 9 = .ok (.dreturn, 1) := by decide +kernel
theorem dX1_last_0 : decode cX1_last 0 = .ok (.iconst 0, 1) := by decide +kernel
theorem dX1_last_1 : decode cX1_last 1 = .ok (.istore_n 1, 1) := by decide +kernel
theorem dX1_last_2 : decode cX1_last 2 = .ok (.iconst 1, 1) := by decide +kernel
theorem dX1_last_3 : decode cX1_last 3 = .ok (.istore_n 2, 1) := by decide +kernel
theorem dX1_last_4 : decode cX1_last 4 = .ok (.iload_n 2, 1) := by decide +kernel
theorem dX1_last_5 : decode cX1_last 5 = .ok (.aload_n 0, 1) := by decide +kernel
theorem dX1_last_6 : decode cX1_last 6 = .ok (.getfield 36, 3) := by decide +kernel
theorem dX1_last_9 : decode cX1_last 9 = .ok (.if_icmp .ge 27, 3) := by decide +kernel
theorem dX1_last_12 : decode cX1_last 12 = .ok (.aload_n 0, 1) := by decide +kernel
theorem dX1_last_13 : decode cX1_last 13 = .ok (.getfield 23, 3) := by decide +kernel
theorem dX1_last_16 : decode cX1_last 16 = .ok (.iload_n 2, 1) := by decide +kernel
theorem dX1_last_17 : decode cX1_last 17 = .ok (.daload, 1) := by decide +kernel
theorem dX1_last_18 : decode cX1_last 18 = .ok (.aload_n 0, 1) := by decide +kernel
theorem dX1_last_19 : decode cX1_last 19 = .ok (.getfield 23, 3) := by decide +kernel
theorem dX1_last_22 : decode cX1_last 22 = .ok (.iload_n 1, 1) := by decide +kernel
theorem dX1_last_23 : decode cX1_last 23 = .ok (.daload, 1) := by decide +kernel
theorem dX1_last_24 : decode cX1_last 24 = .ok (.dcmp .l, 1) := by decide +kernel
theorem dX1_last_25 : decode cX1_last 25 = .ok (.ifCond .le 5, 3) := by decide +kernel
theorem dX1_last_28 : decode cX1_last 28 = .ok (.iload_n 2, 1) := by decide +kernel
theorem dX1_last_29 : decode cX1_last 29 = .ok (.istore_n 1, 1) := by decide +kernel
theorem dX1_last_30 : decode cX1_last 30 = .ok (.iinc 2 1, 3) := by decide +kernel
theorem dX1_last_33 : decode cX1_last 33 = .ok (.goto (-29), 3) := by decide +kernel
theorem dX1_last_36 : decode cX1_last 36 = .ok (.iload_n 1, 1) := by decide +kernel
theorem dX1_last_37 : decode cX1_last 37 = .ok (.ireturn, 1) := by decide +kernel
set_option maxRecDepth 20000 in
theorem ggX1_best_X1_greatest : GoodIn wsX1_best wsX1_greatest := goodIn_r _ [8, 9, 3, 10, 11, 12, 13, 14, 15, 7, 16, 17, 18, 19, 20, 21, 22, 23, 24, 25, 26, 31, 32, 33, 34, 35, 36, 37, 38, 39, 40, 41] (by decide +kernel) (by decide +kernel)
set_option maxRecDepth 20000 in
theorem gX1_best_X1_greatest : GoodIn wsX1_best (wsV RX1 83 RX1 yX1_greatest wsX1_greatest) := goodIn_app (goodIn_of _ (by decide +kernel)) ggX1_best_X1_greatest
set_option maxRecDepth 20000 in
theorem ggX1_best_X1_last : GoodIn wsX1_best wsX1_last := goodIn_r _ [30, 9, 3, 31, 32, 33, 34, 35, 36, 37, 38, 39, 40, 41] (by decide +kernel) (by decide +kernel)
set_option maxRecDepth 20000 in
theorem gX1_best_X1_last : GoodIn wsX1_best (wsV RX1 86 RX1 yX1_last wsX1_last) := goodIn_app (goodIn_of _ (by decide +kernel)) ggX1_best_X1_last
theorem dX1_best_0 : decode cX1_best 0 = .ok (.aload_n 0, 1) := by decide +kernel
theorem dX1_best_1 : decode cX1_best 1 = .ok (.iconst 0, 1) := by decide +kernel
theorem dX1_best_2 : decode cX1_best 2 = .ok (.putfield 40, 3) := by decide +kernel
theorem dX1_best_5 : decode cX1_best 5 = .ok (.aload_n 0, 1) := by decide +kernel
theorem dX1_best_6 : decode cX1_best 6 = .ok (.getfield 43, 3) := by decide +kernel
theorem dX1_best_9 : decode cX1_best 9 = .ok (.ifCond .ne 5, 3) := by decide +kernel
theorem dX1_best_12 : decode cX1_best 12 = .ok (.dconst 1, 1) := by decide +kernel
theorem dX1_best_13 : decode cX1_best 13 = .ok (.dreturn, 1) := by decide +kernel
theorem dX1_best_14 : decode cX1_best 14 = .ok (.aload_n 0, 1) := by decide +kernel
theorem dX1_best_15 : decode cX1_best 15 = .ok (.aload_n 0, 1) := by decide +kernel
theorem dX1_best_16 : decode cX1_best 16 = .ok (.getfield 43, 3) := by decide +kernel
theorem dX1_best_19 : decode cX1_best 19 = .ok (.iconst 1, 1) := by decide +kernel
theorem dX1_best_20 : decode cX1_best 20 = .ok (.isub, 1) := by decide +kernel
theorem dX1_best_21 : decode cX1_best 21 = .ok (.invokevirtual 83, 3) := by decide +kernel
theorem dX1_best_24 : decode cX1_best 24 = .ok (.aload_n 0, 1) := by decide +kernel
theorem dX1_best_25 : decode cX1_best 25 = .ok (.getfield 23, 3) := by decide +kernel
theorem dX1_best_28 : decode cX1_best 28 = .ok (.aload_n 0, 1) := by decide +kernel
theorem dX1_best_29 : decode cX1_best 29 = .ok (.invokevirtual 86, 3) := by decide +kernel
theorem dX1_best_32 : decode cX1_best 32 = .ok (.daload, 1) := by decide +kernel
theorem dX1_best_33 : decode cX1_best 33 = .ok (.dreturn, 1) := by decide +kernel
set_option maxRecDepth 20000 in
theorem ggX1_bestState_X1_greatest : GoodIn wsX1_bestState wsX1_greatest := goodIn_r _ [7, 8, 9, 10, 11, 12, 13, 14, 15, 6, 16, 17, 18, 19, 20, 21, 22, 23, 24, 25, 26, 31, 32, 33, 34, 35, 36, 37, 38, 39, 40, 41] (by decide +kernel) (by decide +kernel)
set_option maxRecDepth 20000 in
theorem gX1_bestState_X1_greatest : GoodIn wsX1_bestState (wsV RX1 83 RX1 yX1_greatest wsX1_greatest) := goodIn_app (goodIn_of _ (by decide +kernel)) ggX1_bestState_X1_greatest
set_option maxRecDepth 20000 in
theorem ggX1_bestState_X1_last : GoodIn wsX1_bestState wsX1_last := goodIn_r _ [30, 8, 9, 31, 32, 33, 34, 35, 36, 37, 38, 39, 40, 41] (by decide +kernel) (by decide +kernel)
set_option maxRecDepth 20000 in
theorem gX1_bestState_X1_last : GoodIn wsX1_bestState (wsV RX1 86 RX1 yX1_last wsX1_last) := goodIn_app (goodIn_of _ (by decide +kernel)) ggX1_bestState_X1_last
set_option maxRecDepth 20000 in
theorem ggX1_bestState_X1_shift : GoodIn wsX1_bestState wsX1_shift := goodIn_r _ [22, 11, 9, 31, 32, 33, 34, 35, 36, 37, 38, 39, 40, 41] (by decide +kernel) (by decide +kernel)
set_option maxRecDepth 20000 in
theorem gX1_bestState_X1_shift : GoodIn wsX1_bestState (wsV RX1 61 RX1 yX1_shift wsX1_shift) := goodIn_app (goodIn_of _ (by decide +kernel)) ggX1_bestState_X1_shift
set_option maxRecDepth 20000 in
theorem ggX1_bestState_X1_from : GoodIn wsX1_bestState wsX1_from := goodIn_r _ [26, 8, 11, 12, 31, 32, 33, 34, 35, 36, 37, 38, 39, 40, 41] (by decide +kernel) (by decide +kernel)
set_option maxRecDepth 20000 in
theorem gX1_bestState_X1_from : GoodIn wsX1_bestState (wsV RX1 64 RX1 yX1_from wsX1_from) := goodIn_app (goodIn_of _ (by decide +kernel)) ggX1_bestState_X1_from
theorem dX1_bestState_0 : decode cX1_bestState 0 = .ok (.aload_n 0, 1) := by decide +kernel
theorem dX1_bestState_1 : decode cX1_bestState 1 = .ok (.iconst 0, 1) := by decide +kernel
theorem dX1_bestState_2 : decode cX1_bestState 2 = .ok (.putfield 40, 3) := by decide +kernel
theorem dX1_bestState_5 : decode cX1_bestState 5 = .ok (.iload_n 1, 1) := by decide +kernel
theorem dX1_bestState_6 : decode cX1_bestState 6 = .ok (.ifCond .lt 11, 3) := by decide +kernel
theorem dX1_bestState_9 : decode cX1_bestState 9 = .ok (.iload_n 1, 1) := by decide +kernel
theorem dX1_bestState_10 : decode cX1_bestState 10 = .ok (.aload_n 0, 1) := by decide +kernel
theorem dX1_bestState_11 : decode cX1_bestState 11 = .ok (.getfield 43, 3) := by decide +kernel
theorem dX1_bestState_14 : decode cX1_bestState 14 = .ok (.if_icmp .lt 5, 3) := by decide +kernel
theorem dX1_bestState_17 : decode cX1_bestState 17 = .ok (.iconst (-1), 1) := by decide +kernel
theorem dX1_bestState_18 : decode cX1_bestState 18 = .ok (.ireturn, 1) := by decide +kernel
theorem dX1_bestState_19 : decode cX1_bestState 19 = .ok (.aload_n 0, 1) := by decide +kernel
theorem dX1_bestState_20 : decode cX1_bestState 20 = .ok (.aload_n 0, 1) := by decide +kernel
theorem dX1_bestState_21 : decode cX1_bestState 21 = .ok (.getfield 43, 3) := by decide +kernel
theorem dX1_bestState_24 : decode cX1_bestState 24 = .ok (.iconst 1, 1) := by decide +kernel
theorem dX1_bestState_25 : decode cX1_bestState 25 = .ok (.isub, 1) := by decide +kernel
theorem dX1_bestState_26 : decode cX1_bestState 26 = .ok (.invokevirtual 83, 3) := by decide +kernel
theorem dX1_bestState_29 : decode cX1_bestState 29 = .ok (.aload_n 0, 1) := by decide +kernel
theorem dX1_bestState_30 : decode cX1_bestState 30 = .ok (.invokevirtual 86, 3) := by decide +kernel
theorem dX1_bestState_33 : decode cX1_bestState 33 = .ok (.istore_n 2, 1) := by decide +kernel
theorem dX1_bestState_34 : decode cX1_bestState 34 = .ok (.aload_n 0, 1) := by decide +kernel
theorem dX1_bestState_35 : decode cX1_bestState 35 = .ok (.getfield 43, 3) := by decide +kernel
theorem dX1_bestState_38 : decode cX1_bestState 38 = .ok (.iconst 1, 1) := by decide +kernel
theorem dX1_bestState_39 : decode cX1_bestState 39 = .ok (.isub, 1) := by decide +kernel
theorem dX1_bestState_40 : decode cX1_bestState 40 = .ok (.istore_n 3, 1) := by decide +kernel
theorem dX1_bestState_41 : decode cX1_bestState 41 = .ok (.iload_n 3, 1) := by decide +kernel
theorem dX1_bestState_42 : decode cX1_bestState 42 = .ok (.iload_n 1, 1) := by decide +kernel
theorem dX1_bestState_43 : decode cX1_bestState 43 = .ok (.if_icmp .le 26, 3) := by decide +kernel
theorem dX1_bestState_46 : decode cX1_bestState 46 = .ok (.aload_n 0, 1) := by decide +kernel
theorem dX1_bestState_47 : decode cX1_bestState 47 = .ok (.iload_n 3, 1) := by decide +kernel
theorem dX1_bestState_48 : decode cX1_bestState 48 = .ok (.iconst 1, 1) := by decide +kernel
theorem dX1_bestState_49 : decode cX1_bestState 49 = .ok (.isub, 1) := by decide +kernel
theorem dX1_bestState_50 : decode cX1_bestState 50 = .ok (.invokevirtual 83, 3) := by decide +kernel
theorem dX1_bestState_53 : decode cX1_bestState 53 = .ok (.aload_n 0, 1) := by decide +kernel
theorem dX1_bestState_54 : decode cX1_bestState 54 = .ok (.invokevirtual 61, 3) := by decide +kernel
theorem dX1_bestState_57 : decode cX1_bestState 57 = .ok (.aload_n 0, 1) := by decide +kernel
theorem dX1_bestState_58 : decode cX1_bestState 58 = .ok (.iload_n 2, 1) := by decide +kernel
theorem dX1_bestState_59 : decode cX1_bestState 59 = .ok (.invokevirtual 64, 3) := by decide +kernel
theorem dX1_bestState_62 : decode cX1_bestState 62 = .ok (.istore_n 2, 1) := by decide +kernel
theorem dX1_bestState_63 : decode cX1_bestState 63 = .ok (.iinc 3 (-1), 3) := by decide +kernel
theorem dX1_bestState_66 : decode cX1_bestState 66 = .ok (.goto (-25), 3) := by decide +kernel
theorem dX1_bestState_69 : decode cX1_bestState 69 = .ok (.iload_n 2, 1) := by decide +kernel
theorem dX1_bestState_70 : decode cX1_bestState 70 = .ok (.ireturn, 1) := by decide +kernel
set_option maxRecDepth 20000 in
theorem ggX1_share_X1_fault : GoodIn wsX1_share wsX1_fault := goodIn_r _ [7, 8, 9, 10, 11, 6, 12, 13, 39, 40, 41, 42, 43, 44, 45, 46, 47, 48, 49] (by decide +kernel) (by decide +kernel)
set_option maxRecDepth 20000 in
theorem gX1_share_X1_fault : GoodIn wsX1_share (wsV RX1 68 RX1 yX1_fault wsX1_fault) := goodIn_app (goodIn_of _ (by decide +kernel)) ggX1_share_X1_fault
set_option maxRecDepth 20000 in
theorem ggX1_share_X1_all : GoodIn wsX1_share wsX1_all := goodIn_r _ [17, 8, 13, 2, 18, 19, 20, 6, 21, 22, 23, 24, 25, 26, 27, 28, 29, 30, 31, 32, 33, 34, 39, 40, 41, 42, 43, 44, 45, 46, 47, 48, 49] (by decide +kernel) (by decide +kernel)
set_option maxRecDepth 20000 in
theorem gX1_share_X1_all : GoodIn wsX1_share (wsV RX1 79 RX1 yX1_all wsX1_all) := goodIn_app (goodIn_of _ (by decide +kernel)) ggX1_share_X1_all
set_option maxRecDepth 20000 in
theorem ggX1_share_X1_ahead : GoodIn wsX1_share wsX1_ahead := goodIn_r _ [21, 13, 2, 22, 23, 24, 25, 26, 27, 6, 28, 29, 30, 31, 32, 33, 34, 39, 40, 41, 42, 43, 44, 45, 46, 47, 48, 49] (by decide +kernel) (by decide +kernel)
set_option maxRecDepth 20000 in
theorem gX1_share_X1_ahead : GoodIn wsX1_share (wsV RX1 72 RX1 yX1_ahead wsX1_ahead) := goodIn_app (goodIn_of _ (by decide +kernel)) ggX1_share_X1_ahead
set_option maxRecDepth 20000 in
theorem ggX1_share_X1_behind : GoodIn wsX1_share wsX1_behind := goodIn_r _ [38, 13, 2, 8, 24, 23, 31, 32, 33, 6, 34, 25, 26, 27, 28, 29, 30, 39, 40, 41, 42, 43, 44, 45, 46, 47, 48, 49] (by decide +kernel) (by decide +kernel)
set_option maxRecDepth 20000 in
theorem gX1_share_X1_behind : GoodIn wsX1_share (wsV RX1 76 RX1 yX1_behind wsX1_behind) := goodIn_app (goodIn_of _ (by decide +kernel)) ggX1_share_X1_behind
theorem dX1_share_0 : decode cX1_share 0 = .ok (.aload_n 0, 1) := by decide +kernel
theorem dX1_share_1 : decode cX1_share 1 = .ok (.aload_n 0, 1) := by decide +kernel
theorem dX1_share_2 : decode cX1_share 2 = .ok (.iload_n 1, 1) := by decide +kernel
theorem dX1_share_3 : decode cX1_share 3 = .ok (.iload_n 2, 1) := by decide +kernel
theorem dX1_share_4 : decode cX1_share 4 = .ok (.invokevirtual 68, 3) := by decide +kernel
theorem dX1_share_7 : decode cX1_share 7 = .ok (.putfield 40, 3) := by decide +kernel
theorem dX1_share_10 : decode cX1_share 10 = .ok (.aload_n 0, 1) := by decide +kernel
theorem dX1_share_11 : decode cX1_share 11 = .ok (.getfield 40, 3) := by decide +kernel
theorem dX1_share_14 : decode cX1_share 14 = .ok (.ifCond .le 5, 3) := by decide +kernel
theorem dX1_share_17 : decode cX1_share 17 = .ok (.dconst 0, 1) := by decide +kernel
theorem dX1_share_18 : decode cX1_share 18 = .ok (.dreturn, 1) := by decide +kernel
theorem dX1_share_19 : decode cX1_share 19 = .ok (.aload_n 0, 1) := by decide +kernel
theorem dX1_share_20 : decode cX1_share 20 = .ok (.invokevirtual 79, 3) := by decide +kernel
theorem dX1_share_23 : decode cX1_share 23 = .ok (.dstore_n 3, 1) := by decide +kernel
theorem dX1_share_24 : decode cX1_share 24 = .ok (.dload_n 3, 1) := by decide +kernel
theorem dX1_share_25 : decode cX1_share 25 = .ok (.dconst 0, 1) := by decide +kernel
theorem dX1_share_26 : decode cX1_share 26 = .ok (.dcmp .l, 1) := by decide +kernel
theorem dX1_share_27 : decode cX1_share 27 = .ok (.ifCond .ne 10, 3) := by decide +kernel
theorem dX1_share_30 : decode cX1_share 30 = .ok (.aload_n 0, 1) := by decide +kernel
theorem dX1_share_31 : decode cX1_share 31 = .ok (.iconst 3, 1) := by decide +kernel
theorem dX1_share_32 : decode cX1_share 32 = .ok (.putfield 40, 3) := by decide +kernel
theorem dX1_share_35 : decode cX1_share 35 = .ok (.dconst 0, 1) := by decide +kernel
theorem dX1_share_36 : decode cX1_share 36 = .ok (.dreturn, 1) := by decide +kernel
theorem dX1_share_37 : decode cX1_share 37 = .ok (.aload_n 0, 1) := by decide +kernel
theorem dX1_share_38 : decode cX1_share 38 = .ok (.iload_n 1, 1) := by decide +kernel
theorem dX1_share_39 : decode cX1_share 39 = .ok (.invokevirtual 72, 3) := by decide +kernel
theorem dX1_share_42 : decode cX1_share 42 = .ok (.aload_n 0, 1) := by decide +kernel
theorem dX1_share_43 : decode cX1_share 43 = .ok (.getfield 23, 3) := by decide +kernel
theorem dX1_share_46 : decode cX1_share 46 = .ok (.iload_n 2, 1) := by decide +kernel
theorem dX1_share_47 : decode cX1_share 47 = .ok (.daload, 1) := by decide +kernel
theorem dX1_share_48 : decode cX1_share 48 = .ok (.dstore 5, 2) := by decide +kernel
theorem dX1_share_50 : decode cX1_share 50 = .ok (.aload_n 0, 1) := by decide +kernel
theorem dX1_share_51 : decode cX1_share 51 = .ok (.iload_n 1, 1) := by decide +kernel
theorem dX1_share_52 : decode cX1_share 52 = .ok (.invokevirtual 76, 3) := by decide +kernel
theorem dX1_share_55 : decode cX1_share 55 = .ok (.dload 5, 2) := by decide +kernel
theorem dX1_share_57 : decode cX1_share 57 = .ok (.aload_n 0, 1) := by decide +kernel
theorem dX1_share_58 : decode cX1_share 58 = .ok (.getfield 23, 3) := by decide +kernel
theorem dX1_share_61 : decode cX1_share 61 = .ok (.iload_n 2, 1) := by decide +kernel
theorem dX1_share_62 : decode cX1_share 62 = .ok (.daload, 1) := by decide +kernel
theorem dX1_share_63 : decode cX1_share 63 = .ok (.dmul, 1) := by decide +kernel
theorem dX1_share_64 : decode cX1_share 64 = .ok (.dload_n 3, 1) := by decide +kernel
theorem dX1_share_65 : decode cX1_share 65 = .ok (.ddiv, 1) := by decide +kernel
theorem dX1_share_66 : decode cX1_share 66 = .ok (.dreturn, 1) := by decide +kernel
set_option maxRecDepth 20000 in
theorem ggX1_possible_X1_shown : GoodIn wsX1_possible wsX1_shown := goodIn_r _ [12, 13, 14, 15, 16, 17, 18, 19, 20, 21, 22, 23, 24, 25] (by decide +kernel) (by decide +kernel)
set_option maxRecDepth 20000 in
theorem gX1_possible_X1_shown : GoodIn wsX1_possible (wsV RX1 57 RX1 yX1_shown wsX1_shown) := goodIn_app (goodIn_of _ (by decide +kernel)) ggX1_possible_X1_shown
theorem dX1_possible_0 : decode cX1_possible 0 = .ok (.aload_n 0, 1) := by decide +kernel
theorem dX1_possible_1 : decode cX1_possible 1 = .ok (.iconst 0, 1) := by decide +kernel
theorem dX1_possible_2 : decode cX1_possible 2 = .ok (.putfield 40, 3) := by decide +kernel
theorem dX1_possible_5 : decode cX1_possible 5 = .ok (.aload_n 0, 1) := by decide +kernel
theorem dX1_possible_6 : decode cX1_possible 6 = .ok (.getfield 43, 3) := by decide +kernel
theorem dX1_possible_9 : decode cX1_possible 9 = .ok (.ifCond .ne 5, 3) := by decide +kernel
theorem dX1_possible_12 : decode cX1_possible 12 = .ok (.lconst 1, 1) := by decide +kernel
theorem dX1_possible_13 : decode cX1_possible 13 = .ok (.lreturn, 1) := by decide +kernel
theorem dX1_possible_14 : decode cX1_possible 14 = .ok (.iconst 0, 1) := by decide +kernel
theorem dX1_possible_15 : decode cX1_possible 15 = .ok (.istore_n 1, 1) := by decide +kernel
theorem dX1_possible_16 : decode cX1_possible 16 = .ok (.iload_n 1, 1) := by decide +kernel
theorem dX1_possible_17 : decode cX1_possible 17 = .ok (.bipush 6, 2) := by decide +kernel
theorem dX1_possible_19 : decode cX1_possible 19 = .ok (.if_icmp .ge 50, 3) := by decide +kernel
theorem dX1_possible_22 : decode cX1_possible 22 = .ok (.aload_n 0, 1) := by decide +kernel
theorem dX1_possible_23 : decode cX1_possible 23 = .ok (.getfield 29, 3) := by decide +kernel
theorem dX1_possible_26 : decode cX1_possible 26 = .ok (.iload_n 1, 1) := by decide +kernel
theorem dX1_possible_27 : decode cX1_possible 27 = .ok (.iload_n 1, 1) := by decide +kernel
theorem dX1_possible_28 : decode cX1_possible 28 = .ok (.aload_n 0, 1) := by decide +kernel
theorem dX1_possible_29 : decode cX1_possible 29 = .ok (.getfield 36, 3) := by decide +kernel
theorem dX1_possible_32 : decode cX1_possible 32 = .ok (.if_icmp .ge 29, 3) := by decide +kernel
theorem dX1_possible_35 : decode cX1_possible 35 = .ok (.aload_n 0, 1) := by decide +kernel
theorem dX1_possible_36 : decode cX1_possible 36 = .ok (.getfield 7, 3) := by decide +kernel
theorem dX1_possible_39 : decode cX1_possible 39 = .ok (.iload_n 1, 1) := by decide +kernel
theorem dX1_possible_40 : decode cX1_possible 40 = .ok (.daload, 1) := by decide +kernel
theorem dX1_possible_41 : decode cX1_possible 41 = .ok (.dconst 0, 1) := by decide +kernel
theorem dX1_possible_42 : decode cX1_possible 42 = .ok (.dcmp .l, 1) := by decide +kernel
theorem dX1_possible_43 : decode cX1_possible 43 = .ok (.ifCond .le 18, 3) := by decide +kernel
theorem dX1_possible_46 : decode cX1_possible 46 = .ok (.aload_n 0, 1) := by decide +kernel
theorem dX1_possible_47 : decode cX1_possible 47 = .ok (.iload_n 1, 1) := by decide +kernel
theorem dX1_possible_48 : decode cX1_possible 48 = .ok (.iconst 0, 1) := by decide +kernel
theorem dX1_possible_49 : decode cX1_possible 49 = .ok (.invokevirtual 57, 3) := by decide +kernel
theorem dX1_possible_52 : decode cX1_possible 52 = .ok (.dconst 0, 1) := by decide +kernel
theorem dX1_possible_53 : decode cX1_possible 53 = .ok (.dcmp .l, 1) := by decide +kernel
theorem dX1_possible_54 : decode cX1_possible 54 = .ok (.ifCond .le 7, 3) := by decide +kernel
theorem dX1_possible_57 : decode cX1_possible 57 = .ok (.lconst 1, 1) := by decide +kernel
theorem dX1_possible_58 : decode cX1_possible 58 = .ok (.goto 4, 3) := by decide +kernel
theorem dX1_possible_61 : decode cX1_possible 61 = .ok (.lconst 0, 1) := by decide +kernel
theorem dX1_possible_62 : decode cX1_possible 62 = .ok (.lastore, 1) := by decide +kernel
theorem dX1_possible_63 : decode cX1_possible 63 = .ok (.iinc 1 1, 3) := by decide +kernel
theorem dX1_possible_66 : decode cX1_possible 66 = .ok (.goto (-50), 3) := by decide +kernel
theorem dX1_possible_69 : decode cX1_possible 69 = .ok (.iconst 1, 1) := by decide +kernel
theorem dX1_possible_70 : decode cX1_possible 70 = .ok (.istore_n 1, 1) := by decide +kernel
theorem dX1_possible_71 : decode cX1_possible 71 = .ok (.iload_n 1, 1) := by decide +kernel
theorem dX1_possible_72 : decode cX1_possible 72 = .ok (.aload_n 0, 1) := by decide +kernel
theorem dX1_possible_73 : decode cX1_possible 73 = .ok (.getfield 43, 3) := by decide +kernel
theorem dX1_possible_76 : decode cX1_possible 76 = .ok (.if_icmp .ge 120, 3) := by decide +kernel
theorem dX1_possible_79 : decode cX1_possible 79 = .ok (.iconst 0, 1) := by decide +kernel
theorem dX1_possible_80 : decode cX1_possible 80 = .ok (.istore_n 2, 1) := by decide +kernel
theorem dX1_possible_81 : decode cX1_possible 81 = .ok (.iload_n 2, 1) := by decide +kernel
theorem dX1_possible_82 : decode cX1_possible 82 = .ok (.bipush 6, 2) := by decide +kernel
theorem dX1_possible_84 : decode cX1_possible 84 = .ok (.if_icmp .ge 21, 3) := by decide +kernel
theorem dX1_possible_87 : decode cX1_possible 87 = .ok (.aload_n 0, 1) := by decide +kernel
theorem dX1_possible_88 : decode cX1_possible 88 = .ok (.getfield 33, 3) := by decide +kernel
theorem dX1_possible_91 : decode cX1_possible 91 = .ok (.iload_n 2, 1) := by decide +kernel
theorem dX1_possible_92 : decode cX1_possible 92 = .ok (.aload_n 0, 1) := by decide +kernel
theorem dX1_possible_93 : decode cX1_possible 93 = .ok (.getfield 29, 3) := by decide +kernel
theorem dX1_possible_96 : decode cX1_possible 96 = .ok (.iload_n 2, 1) := by decide +kernel
theorem dX1_possible_97 : decode cX1_possible 97 = .ok (.laload, 1) := by decide +kernel
theorem dX1_possible_98 : decode cX1_possible 98 = .ok (.lastore, 1) := by decide +kernel
theorem dX1_possible_99 : decode cX1_possible 99 = .ok (.iinc 2 1, 3) := by decide +kernel
theorem dX1_possible_102 : decode cX1_possible 102 = .ok (.goto (-21), 3) := by decide +kernel
theorem dX1_possible_105 : decode cX1_possible 105 = .ok (.iconst 0, 1) := by decide +kernel
theorem dX1_possible_106 : decode cX1_possible 106 = .ok (.istore_n 2, 1) := by decide +kernel
theorem dX1_possible_107 : decode cX1_possible 107 = .ok (.iload_n 2, 1) := by decide +kernel
theorem dX1_possible_108 : decode cX1_possible 108 = .ok (.aload_n 0, 1) := by decide +kernel
theorem dX1_possible_109 : decode cX1_possible 109 = .ok (.getfield 36, 3) := by decide +kernel
theorem dX1_possible_112 : decode cX1_possible 112 = .ok (.if_icmp .ge 78, 3) := by decide +kernel
theorem dX1_possible_115 : decode cX1_possible 115 = .ok (.aload_n 0, 1) := by decide +kernel
theorem dX1_possible_116 : decode cX1_possible 116 = .ok (.getfield 29, 3) := by decide +kernel
theorem dX1_possible_119 : decode cX1_possible 119 = .ok (.iload_n 2, 1) := by decide +kernel
theorem dX1_possible_120 : decode cX1_possible 120 = .ok (.lconst 0, 1) := by decide +kernel
theorem dX1_possible_121 : decode cX1_possible 121 = .ok (.lastore, 1) := by decide +kernel
theorem dX1_possible_122 : decode cX1_possible 122 = .ok (.iconst 0, 1) := by decide +kernel
theorem dX1_possible_123 : decode cX1_possible 123 = .ok (.istore_n 3, 1) := by decide +kernel
theorem dX1_possible_124 : decode cX1_possible 124 = .ok (.iload_n 3, 1) := by decide +kernel
theorem dX1_possible_125 : decode cX1_possible 125 = .ok (.aload_n 0, 1) := by decide +kernel
theorem dX1_possible_126 : decode cX1_possible 126 = .ok (.getfield 36, 3) := by decide +kernel
theorem dX1_possible_129 : decode cX1_possible 129 = .ok (.if_icmp .ge 55, 3) := by decide +kernel
theorem dX1_possible_132 : decode cX1_possible 132 = .ok (.aload_n 0, 1) := by decide +kernel
theorem dX1_possible_133 : decode cX1_possible 133 = .ok (.getfield 13, 3) := by decide +kernel
theorem dX1_possible_136 : decode cX1_possible 136 = .ok (.bipush 6, 2) := by decide +kernel
theorem dX1_possible_138 : decode cX1_possible 138 = .ok (.iload_n 3, 1) := by decide +kernel
theorem dX1_possible_139 : decode cX1_possible 139 = .ok (.imul, 1) := by decide +kernel
theorem dX1_possible_140 : decode cX1_possible 140 = .ok (.iload_n 2, 1) := by decide +kernel
theorem dX1_possible_141 : decode cX1_possible 141 = .ok (.iadd, 1) := by decide +kernel
theorem dX1_possible_142 : decode cX1_possible 142 = .ok (.daload, 1) := by decide +kernel
theorem dX1_possible_143 : decode cX1_possible 143 = .ok (.dconst 0, 1) := by decide +kernel
theorem dX1_possible_144 : decode cX1_possible 144 = .ok (.dcmp .l, 1) := by decide +kernel
theorem dX1_possible_145 : decode cX1_possible 145 = .ok (.ifCond .le 33, 3) := by decide +kernel
theorem dX1_possible_148 : decode cX1_possible 148 = .ok (.aload_n 0, 1) := by decide +kernel
theorem dX1_possible_149 : decode cX1_possible 149 = .ok (.iload_n 2, 1) := by decide +kernel
theorem dX1_possible_150 : decode cX1_possible 150 = .ok (.iload_n 1, 1) := by decide +kernel
theorem dX1_possible_151 : decode cX1_possible 151 = .ok (.invokevirtual 57, 3) := by decide +kernel
theorem dX1_possible_154 : decode cX1_possible 154 = .ok (.dconst 0, 1) := by decide +kernel
theorem dX1_possible_155 : decode cX1_possible 155 = .ok (.dcmp .l, 1) := by decide +kernel
theorem dX1_possible_156 : decode cX1_possible 156 = .ok (.ifCond .le 22, 3) := by decide +kernel
theorem dX1_possible_159 : decode cX1_possible 159 = .ok (.aload_n 0, 1) := by decide +kernel
theorem dX1_possible_160 : decode cX1_possible 160 = .ok (.getfield 29, 3) := by decide +kernel
theorem dX1_possible_163 : decode cX1_possible 163 = .ok (.iload_n 2, 1) := by decide +kernel
theorem dX1_possible_164 : decode cX1_possible 164 = .ok (.aload_n 0, 1) := by decide +kernel
theorem dX1_possible_165 : decode cX1_possible 165 = .ok (.getfield 29, 3) := by decide +kernel
theorem dX1_possible_168 : decode cX1_possible 168 = .ok (.iload_n 2, 1) := by decide +kernel
theorem dX1_possible_169 : decode cX1_possible 169 = .ok (.laload, 1) := by decide +kernel
theorem dX1_possible_170 : decode cX1_possible 170 = .ok (.aload_n 0, 1) := by decide +kernel
theorem dX1_possible_171 : decode cX1_possible 171 = .ok (.getfield 33, 3) := by decide +kernel
theorem dX1_possible_174 : decode cX1_possible 174 = .ok (.iload_n 3, 1) := by decide +kernel
theorem dX1_possible_175 : decode cX1_possible 175 = .ok (.laload, 1) := by decide +kernel
theorem dX1_possible_176 : decode cX1_possible 176 = .ok (.ladd, 1) := by decide +kernel
theorem dX1_possible_177 : decode cX1_possible 177 = .ok (.lastore, 1) := by decide +kernel
theorem dX1_possible_178 : decode cX1_possible 178 = .ok (.iinc 3 1, 3) := by decide +kernel
theorem dX1_possible_181 : decode cX1_possible 181 = .ok (.goto (-57), 3) := by decide +kernel
theorem dX1_possible_184 : decode cX1_possible 184 = .ok (.iinc 2 1, 3) := by decide +kernel
theorem dX1_possible_187 : decode cX1_possible 187 = .ok (.goto (-80), 3) := by decide +kernel
theorem dX1_possible_190 : decode cX1_possible 190 = .ok (.iinc 1 1, 3) := by decide +kernel
theorem dX1_possible_193 : decode cX1_possible 193 = .ok (.goto (-122), 3) := by decide +kernel
theorem dX1_possible_196 : decode cX1_possible 196 = .ok (.lconst 0, 1) := by decide +kernel
theorem dX1_possible_197 : decode cX1_possible 197 = .ok (.lstore_n 1, 1) := by decide +kernel
theorem dX1_possible_198 : decode cX1_possible 198 = .ok (.iconst 0, 1) := by decide +kernel
theorem dX1_possible_199 : decode cX1_possible 199 = .ok (.istore_n 3, 1) := by decide +kernel
theorem dX1_possible_200 : decode cX1_possible 200 = .ok (.iload_n 3, 1) := by decide +kernel
theorem dX1_possible_201 : decode cX1_possible 201 = .ok (.aload_n 0, 1) := by decide +kernel
theorem dX1_possible_202 : decode cX1_possible 202 = .ok (.getfield 36, 3) := by decide +kernel
theorem dX1_possible_205 : decode cX1_possible 205 = .ok (.if_icmp .ge 18, 3) := by decide +kernel
theorem dX1_possible_208 : decode cX1_possible 208 = .ok (.lload_n 1, 1) := by decide +kernel
theorem dX1_possible_209 : decode cX1_possible 209 = .ok (.aload_n 0, 1) := by decide +kernel
theorem dX1_possible_210 : decode cX1_possible 210 = .ok (.getfield 29, 3) := by decide +kernel
theorem dX1_possible_213 : decode cX1_possible 213 = .ok (.iload_n 3, 1) := by decide +kernel
theorem dX1_possible_214 : decode cX1_possible 214 = .ok (.laload, 1) := by decide +kernel
theorem dX1_possible_215 : decode cX1_possible 215 = .ok (.ladd, 1) := by decide +kernel
theorem dX1_possible_216 : decode cX1_possible 216 = .ok (.lstore_n 1, 1) := by decide +kernel
theorem dX1_possible_217 : decode cX1_possible 217 = .ok (.iinc 3 1, 3) := by decide +kernel
theorem dX1_possible_220 : decode cX1_possible 220 = .ok (.goto (-20), 3) := by decide +kernel
theorem dX1_possible_223 : decode cX1_possible 223 = .ok (.lload_n 1, 1) := by decide +kernel
theorem dX1_possible_224 : decode cX1_possible 224 = .ok (.lreturn, 1) := by decide +kernel
end
section
set_option maxRecDepth 20000 in
theorem ggL_forward_X0_forward : GoodIn wsL_forward wsX0_forward := goodIn_ca (goodIn_ca (goodIn_r _ [7, 8, 9, 10, 11, 6, 12, 13, 14, 15, 16, 17, 18, 19, 20, 21, 22, 23, 24, 25, 26, 27, 28, 29, 30, 31, 32, 33, 34, 35, 36, 37, 38, 39, 40, 41, 42, 43, 44, 45, 46, 47, 48, 49, 50, 51, 52, 53] (by decide +kernel) (by decide +kernel)) (goodIn_sub (fun _ h => List.mem_cons_of_mem _ (List.mem_append_left _ (List.mem_append_right _ h))) (by decide +kernel))) (goodIn_sub (fun _ h => List.mem_cons_of_mem _ (List.mem_append_right _ h)) (by decide +kernel))
set_option maxRecDepth 20000 in
theorem gL_forward_X0_forward : GoodIn wsL_forward (wsV RL 7 RX0 yX0_forward wsX0_forward) := goodIn_app (goodIn_of _ (by decide +kernel)) ggL_forward_X0_forward
theorem dL_forward_0 : decode cL_forward 0 = .ok (.aload_n 3, 1) := by decide +kernel
theorem dL_forward_1 : decode cL_forward 1 = .ok (.iconst 0, 1) := by decide +kernel
theorem dL_forward_2 : decode cL_forward 2 = .ok (.aload_n 0, 1) := by decide +kernel
theorem dL_forward_3 : decode cL_forward 3 = .ok (.iload_n 1, 1) := by decide +kernel
theorem dL_forward_4 : decode cL_forward 4 = .ok (.iload_n 2, 1) := by decide +kernel
theorem dL_forward_5 : decode cL_forward 5 = .ok (.invokevirtual 7, 3) := by decide +kernel
theorem dL_forward_8 : decode cL_forward 8 = .ok (.dastore, 1) := by decide +kernel
theorem dL_forward_9 : decode cL_forward 9 = .ok (.goto 11, 3) := by decide +kernel
theorem dL_forward_12 : decode cL_forward 12 = .ok (.astore 4, 2) := by decide +kernel
theorem dL_forward_14 : decode cL_forward 14 = .ok (.iconst 1, 1) := by decide +kernel
theorem dL_forward_15 : decode cL_forward 15 = .ok (.ireturn, 1) := by decide +kernel
theorem dL_forward_16 : decode cL_forward 16 = .ok (.astore 4, 2) := by decide +kernel
theorem dL_forward_18 : decode cL_forward 18 = .ok (.iconst 2, 1) := by decide +kernel
theorem dL_forward_19 : decode cL_forward 19 = .ok (.ireturn, 1) := by decide +kernel
theorem dL_forward_20 : decode cL_forward 20 = .ok (.iconst 0, 1) := by decide +kernel
theorem dL_forward_21 : decode cL_forward 21 = .ok (.ireturn, 1) := by decide +kernel
set_option maxRecDepth 20000 in
theorem ggL_backward_X0_backward : GoodIn wsL_backward wsX0_backward := goodIn_ca (goodIn_ca (goodIn_r _ [7, 8, 9, 10, 11, 6, 12, 13, 14, 15, 16, 17, 18, 19, 20, 21, 22, 23, 24, 25, 26, 27, 28, 29, 30, 31, 32, 33, 34, 35, 36, 37, 38, 39, 40, 41, 42, 43, 44, 45, 46, 47, 48, 49, 50, 51, 52] (by decide +kernel) (by decide +kernel)) (goodIn_sub (fun _ h => List.mem_cons_of_mem _ (List.mem_append_left _ (List.mem_append_right _ h))) (by decide +kernel))) (goodIn_sub (fun _ h => List.mem_cons_of_mem _ (List.mem_append_right _ h)) (by decide +kernel))
set_option maxRecDepth 20000 in
theorem gL_backward_X0_backward : GoodIn wsL_backward (wsV RL 17 RX0 yX0_backward wsX0_backward) := goodIn_app (goodIn_of _ (by decide +kernel)) ggL_backward_X0_backward
theorem dL_backward_0 : decode cL_backward 0 = .ok (.aload_n 3, 1) := by decide +kernel
theorem dL_backward_1 : decode cL_backward 1 = .ok (.iconst 0, 1) := by decide +kernel
theorem dL_backward_2 : decode cL_backward 2 = .ok (.aload_n 0, 1) := by decide +kernel
theorem dL_backward_3 : decode cL_backward 3 = .ok (.iload_n 1, 1) := by decide +kernel
theorem dL_backward_4 : decode cL_backward 4 = .ok (.iload_n 2, 1) := by decide +kernel
theorem dL_backward_5 : decode cL_backward 5 = .ok (.invokevirtual 17, 3) := by decide +kernel
theorem dL_backward_8 : decode cL_backward 8 = .ok (.dastore, 1) := by decide +kernel
theorem dL_backward_9 : decode cL_backward 9 = .ok (.goto 11, 3) := by decide +kernel
theorem dL_backward_12 : decode cL_backward 12 = .ok (.astore 4, 2) := by decide +kernel
theorem dL_backward_14 : decode cL_backward 14 = .ok (.iconst 1, 1) := by decide +kernel
theorem dL_backward_15 : decode cL_backward 15 = .ok (.ireturn, 1) := by decide +kernel
theorem dL_backward_16 : decode cL_backward 16 = .ok (.astore 4, 2) := by decide +kernel
theorem dL_backward_18 : decode cL_backward 18 = .ok (.iconst 2, 1) := by decide +kernel
theorem dL_backward_19 : decode cL_backward 19 = .ok (.ireturn, 1) := by decide +kernel
theorem dL_backward_20 : decode cL_backward 20 = .ok (.iconst 0, 1) := by decide +kernel
theorem dL_backward_21 : decode cL_backward 21 = .ok (.ireturn, 1) := by decide +kernel
set_option maxRecDepth 20000 in
theorem ggL_share_X0_share : GoodIn wsL_share wsX0_share := goodIn_ca (goodIn_ca (goodIn_ca (goodIn_r _ [8, 9, 10, 11, 12, 13, 14, 15, 7, 16, 17, 18, 19, 20, 21, 22, 23, 24, 25, 26, 27, 28, 29, 30, 31, 32, 33, 34, 35, 36, 37, 38, 39, 40, 41, 42, 43, 44, 45, 46, 47, 48, 49, 50, 51, 52, 53, 54, 55, 56, 57, 58, 59, 60, 61, 62, 63, 64, 65, 66, 67, 68, 69] (by decide +kernel) (by decide +kernel)) (goodIn_sub (fun _ h => List.mem_cons_of_mem _ (List.mem_append_left _ (List.mem_append_left _ (List.mem_append_right _ h)))) (by decide +kernel))) (goodIn_sub (fun _ h => List.mem_cons_of_mem _ (List.mem_append_left _ (List.mem_append_right _ h))) (by decide +kernel))) (goodIn_sub (fun _ h => List.mem_cons_of_mem _ (List.mem_append_right _ h)) (by decide +kernel))
set_option maxRecDepth 20000 in
theorem gL_share_X0_share : GoodIn wsL_share (wsV RL 20 RX0 yX0_share wsX0_share) := goodIn_app (goodIn_of _ (by decide +kernel)) ggL_share_X0_share
theorem dL_share_0 : decode cL_share 0 = .ok (.aload_n 3, 1) := by decide +kernel
theorem dL_share_1 : decode cL_share 1 = .ok (.iconst 0, 1) := by decide +kernel
theorem dL_share_2 : decode cL_share 2 = .ok (.aload_n 0, 1) := by decide +kernel
theorem dL_share_3 : decode cL_share 3 = .ok (.iload_n 1, 1) := by decide +kernel
theorem dL_share_4 : decode cL_share 4 = .ok (.iload_n 2, 1) := by decide +kernel
theorem dL_share_5 : decode cL_share 5 = .ok (.invokevirtual 20, 3) := by decide +kernel
theorem dL_share_8 : decode cL_share 8 = .ok (.dastore, 1) := by decide +kernel
theorem dL_share_9 : decode cL_share 9 = .ok (.goto 15, 3) := by decide +kernel
theorem dL_share_12 : decode cL_share 12 = .ok (.astore 4, 2) := by decide +kernel
theorem dL_share_14 : decode cL_share 14 = .ok (.iconst 1, 1) := by decide +kernel
theorem dL_share_15 : decode cL_share 15 = .ok (.ireturn, 1) := by decide +kernel
theorem dL_share_16 : decode cL_share 16 = .ok (.astore 4, 2) := by decide +kernel
theorem dL_share_18 : decode cL_share 18 = .ok (.iconst 2, 1) := by decide +kernel
theorem dL_share_19 : decode cL_share 19 = .ok (.ireturn, 1) := by decide +kernel
theorem dL_share_20 : decode cL_share 20 = .ok (.astore 4, 2) := by decide +kernel
theorem dL_share_22 : decode cL_share 22 = .ok (.iconst 3, 1) := by decide +kernel
theorem dL_share_23 : decode cL_share 23 = .ok (.ireturn, 1) := by decide +kernel
theorem dL_share_24 : decode cL_share 24 = .ok (.iconst 0, 1) := by decide +kernel
theorem dL_share_25 : decode cL_share 25 = .ok (.ireturn, 1) := by decide +kernel
set_option maxRecDepth 20000 in
theorem ggL_law_X0_init : GoodIn wsL_law wsX0_init := goodIn_r _ [10, 11, 12, 13, 14, 15, 16, 17, 6, 18, 19, 20, 21, 22, 23, 24, 25, 26, 27, 28, 29, 300, 301, 302, 303, 304, 305, 306, 307, 308, 309, 310] (by decide +kernel) (by decide +kernel)
set_option maxRecDepth 20000 in
theorem gL_law_X0_init : GoodIn wsL_law (wsX0_init) := ggL_law_X0_init
set_option maxRecDepth 20000 in
theorem ggL_law_X1_init : GoodIn wsL_law wsX1_init := goodIn_r _ [32, 33, 12, 13, 6, 34, 35, 36, 16, 37, 38, 39, 28, 40, 41, 42, 311, 312, 313, 314, 315, 316, 317, 318, 319, 320, 321] (by decide +kernel) (by decide +kernel)
set_option maxRecDepth 20000 in
theorem gL_law_X1_init : GoodIn wsL_law (wsX1_init) := ggL_law_X1_init
set_option maxRecDepth 20000 in
theorem ggL_law_X0_states : GoodIn wsL_law wsX0_states := goodIn_r _ [46, 14, 15, 47, 48, 49, 2, 50, 18, 20, 21, 300, 301, 302, 303, 304, 305, 306, 307, 308, 309, 310] (by decide +kernel) (by decide +kernel)
set_option maxRecDepth 20000 in
theorem gL_law_X0_states : GoodIn wsL_law (wsV RL 29 RX0 yX0_states wsX0_states) := goodIn_app (goodIn_of _ (by decide +kernel)) ggL_law_X0_states
set_option maxRecDepth 20000 in
theorem ggL_law_X1_states : GoodIn wsL_law wsX1_states := goodIn_r _ [54, 55, 42, 56, 34, 35, 36, 311, 312, 313, 314, 315, 316, 317, 318, 319, 320, 321] (by decide +kernel) (by decide +kernel)
set_option maxRecDepth 20000 in
theorem gL_law_X1_states : GoodIn wsL_law (wsV RL 33 RX1 yX1_states wsX1_states) := goodIn_app (goodIn_of _ (by decide +kernel)) ggL_law_X1_states
set_option maxRecDepth 20000 in
theorem ggL_law_X0_size : GoodIn wsL_law wsX0_size := goodIn_r _ [60, 14, 300, 301, 302, 303, 304, 305, 306, 307, 308, 309, 310] (by decide +kernel) (by decide +kernel)
set_option maxRecDepth 20000 in
theorem gL_law_X0_size : GoodIn wsL_law (wsV RL 34 RX0 yX0_size wsX0_size) := goodIn_app (goodIn_of _ (by decide +kernel)) ggL_law_X0_size
set_option maxRecDepth 20000 in
theorem ggL_law_X1_size : GoodIn wsL_law wsX1_size := goodIn_r _ [64, 55, 42, 311, 312, 313, 314, 315, 316, 317, 318, 319, 320, 321] (by decide +kernel) (by decide +kernel)
set_option maxRecDepth 20000 in
theorem gL_law_X1_size : GoodIn wsL_law (wsV RL 38 RX1 yX1_size wsX1_size) := goodIn_app (goodIn_of _ (by decide +kernel)) ggL_law_X1_size
set_option maxRecDepth 20000 in
theorem ggL_law_X0_start : GoodIn wsL_law wsX0_start := goodIn_r _ [68, 18, 69, 70, 71, 2, 72, 14, 73, 74, 75, 300, 301, 302, 303, 304, 305, 306, 307, 308, 309, 310] (by decide +kernel) (by decide +kernel)
set_option maxRecDepth 20000 in
theorem gL_law_X0_start : GoodIn wsL_law (wsV RL 41 RX0 yX0_start wsX0_start) := goodIn_app (goodIn_of _ (by decide +kernel)) ggL_law_X0_start
set_option maxRecDepth 20000 in
theorem ggL_law_X1_start : GoodIn wsL_law wsX1_start := goodIn_r _ [79, 55, 34, 80, 81, 82, 5, 83, 42, 84, 85, 86, 311, 312, 313, 314, 315, 316, 317, 318, 319, 320, 321] (by decide +kernel) (by decide +kernel)
set_option maxRecDepth 20000 in
theorem gL_law_X1_start : GoodIn wsL_law (wsV RL 45 RX1 yX1_start wsX1_start) := goodIn_app (goodIn_of _ (by decide +kernel)) ggL_law_X1_start
set_option maxRecDepth 20000 in
theorem ggL_law_X0_move : GoodIn wsL_law wsX0_move := goodIn_r _ [90, 20, 69, 70, 71, 2, 72, 14, 73, 74, 75, 300, 301, 302, 303, 304, 305, 306, 307, 308, 309, 310] (by decide +kernel) (by decide +kernel)
set_option maxRecDepth 20000 in
theorem gL_law_X0_move : GoodIn wsL_law (wsV RL 46 RX0 yX0_move wsX0_move) := goodIn_app (goodIn_of _ (by decide +kernel)) ggL_law_X0_move
set_option maxRecDepth 20000 in
theorem ggL_law_X1_move : GoodIn wsL_law wsX1_move := goodIn_r _ [94, 55, 35, 80, 81, 82, 5, 83, 42, 84, 85, 86, 311, 312, 313, 314, 315, 316, 317, 318, 319, 320, 321] (by decide +kernel) (by decide +kernel)
set_option maxRecDepth 20000 in
theorem gL_law_X1_move : GoodIn wsL_law (wsV RL 50 RX1 yX1_move wsX1_move) := goodIn_app (goodIn_of _ (by decide +kernel)) ggL_law_X1_move
set_option maxRecDepth 20000 in
theorem ggL_law_X0_show : GoodIn wsL_law wsX0_show := goodIn_r _ [98, 21, 69, 70, 71, 2, 72, 14, 99, 100, 101, 73, 74, 75, 300, 301, 302, 303, 304, 305, 306, 307, 308, 309, 310] (by decide +kernel) (by decide +kernel)
set_option maxRecDepth 20000 in
theorem gL_law_X0_show : GoodIn wsL_law (wsV RL 51 RX0 yX0_show wsX0_show) := goodIn_app (goodIn_of _ (by decide +kernel)) ggL_law_X0_show
set_option maxRecDepth 20000 in
theorem ggL_law_X1_show : GoodIn wsL_law wsX1_show := goodIn_r _ [105, 55, 36, 80, 81, 82, 5, 83, 42, 106, 107, 108, 84, 85, 86, 311, 312, 313, 314, 315, 316, 317, 318, 319, 320, 321] (by decide +kernel) (by decide +kernel)
set_option maxRecDepth 20000 in
theorem gL_law_X1_show : GoodIn wsL_law (wsV RL 54 RX1 yX1_show wsX1_show) := goodIn_app (goodIn_of _ (by decide +kernel)) ggL_law_X1_show
set_option maxRecDepth 20000 in
theorem ggL_law_X0_read : GoodIn wsL_law wsX0_read := goodIn_r _ [112, 15, 17, 99, 100, 2, 101, 300, 301, 302, 303, 304, 305, 306, 307, 308, 309, 310] (by decide +kernel) (by decide +kernel)
set_option maxRecDepth 20000 in
theorem gL_law_X0_read : GoodIn wsL_law (wsV RL 55 RX0 yX0_read wsX0_read) := goodIn_app (goodIn_of _ (by decide +kernel)) ggL_law_X0_read
set_option maxRecDepth 20000 in
theorem ggL_law_X1_read : GoodIn wsL_law wsX1_read := goodIn_r _ [116, 55, 56, 37, 106, 107, 5, 108, 311, 312, 313, 314, 315, 316, 317, 318, 319, 320, 321] (by decide +kernel) (by decide +kernel)
set_option maxRecDepth 20000 in
theorem gL_law_X1_read : GoodIn wsL_law (wsV RL 58 RX1 yX1_read wsX1_read) := goodIn_app (goodIn_of _ (by decide +kernel)) ggL_law_X1_read
set_option maxRecDepth 20000 in
theorem ggL_law_X0_unread : GoodIn wsL_law wsX0_unread := goodIn_r _ [120, 15, 300, 301, 302, 303, 304, 305, 306, 307, 308, 309, 310] (by decide +kernel) (by decide +kernel)
set_option maxRecDepth 20000 in
theorem gL_law_X0_unread : GoodIn wsL_law (wsV RL 59 RX0 yX0_unread wsX0_unread) := goodIn_app (goodIn_of _ (by decide +kernel)) ggL_law_X0_unread
set_option maxRecDepth 20000 in
theorem ggL_law_X1_unread : GoodIn wsL_law wsX1_unread := goodIn_r _ [124, 55, 56, 311, 312, 313, 314, 315, 316, 317, 318, 319, 320, 321] (by decide +kernel) (by decide +kernel)
set_option maxRecDepth 20000 in
theorem gL_law_X1_unread : GoodIn wsL_law (wsV RL 63 RX1 yX1_unread wsX1_unread) := goodIn_app (goodIn_of _ (by decide +kernel)) ggL_law_X1_unread
set_option maxRecDepth 20000 in
theorem ggL_law_X0_length : GoodIn wsL_law wsX0_length := goodIn_r _ [128, 15, 300, 301, 302, 303, 304, 305, 306, 307, 308, 309, 310] (by decide +kernel) (by decide +kernel)
set_option maxRecDepth 20000 in
theorem gL_law_X0_length : GoodIn wsL_law (wsV RL 64 RX0 yX0_length wsX0_length) := goodIn_app (goodIn_of _ (by decide +kernel)) ggL_law_X0_length
set_option maxRecDepth 20000 in
theorem ggL_law_X1_length : GoodIn wsL_law wsX1_length := goodIn_r _ [132, 55, 56, 311, 312, 313, 314, 315, 316, 317, 318, 319, 320, 321] (by decide +kernel) (by decide +kernel)
set_option maxRecDepth 20000 in
theorem gL_law_X1_length : GoodIn wsL_law (wsV RL 67 RX1 yX1_length wsX1_length) := goodIn_app (goodIn_of _ (by decide +kernel)) ggL_law_X1_length
set_option maxRecDepth 20000 in
theorem ggL_law_L_forward : GoodIn wsL_law wsL_forward := goodIn_ca (goodIn_ca (goodIn_r _ [136, 137, 138, 139, 140, 141, 2, 142, 22, 143, 144, 145, 146, 147, 148, 149, 150, 151, 152, 153, 154, 15, 69, 70, 71, 72, 14, 155, 156, 157, 158, 18, 159, 160, 161, 162, 20, 163, 164, 165, 166, 21, 17, 300, 301, 302, 303, 304, 305, 306, 307, 308, 309, 310] (by decide +kernel) (by decide +kernel)) (goodIn_sub (fun _ h => List.mem_append_left _ (List.mem_append_left _ (List.mem_append_right _ h))) (by decide +kernel))) (goodIn_sub (fun _ h => List.mem_append_left _ (List.mem_append_right _ h)) (by decide +kernel))
set_option maxRecDepth 20000 in
theorem gL_law_L_forward : GoodIn wsL_law (va_wsS RL 68 yL_forward wsL_forward) := goodIn_app (goodIn_of _ (by decide +kernel)) ggL_law_L_forward
set_option maxRecDepth 20000 in
theorem ggL_law_X1_forward : GoodIn wsL_law wsX1_forward := goodIn_r _ [170, 55, 38, 171, 172, 173, 5, 174, 56, 80, 81, 82, 83, 42, 175, 176, 177, 178, 34, 39, 35, 179, 180, 181, 182, 36, 37, 183, 184, 185, 186, 311, 312, 313, 314, 315, 316, 317, 318, 319, 320, 321] (by decide +kernel) (by decide +kernel)
set_option maxRecDepth 20000 in
theorem gL_law_X1_forward : GoodIn wsL_law (wsV RL 73 RX1 yX1_forward wsX1_forward) := goodIn_app (goodIn_of _ (by decide +kernel)) ggL_law_X1_forward
set_option maxRecDepth 20000 in
theorem ggL_law_X1_thrown : GoodIn wsL_law wsX1_thrown := goodIn_r _ [190, 55, 311, 312, 313, 314, 315, 316, 317, 318, 319, 320, 321] (by decide +kernel) (by decide +kernel)
set_option maxRecDepth 20000 in
theorem gL_law_X1_thrown : GoodIn wsL_law (wsV RL 74 RX1 yX1_thrown wsX1_thrown) := goodIn_app (goodIn_of _ (by decide +kernel)) ggL_law_X1_thrown
set_option maxRecDepth 20000 in
theorem ggL_law_L_backward : GoodIn wsL_law wsL_backward := goodIn_ca (goodIn_ca (goodIn_r _ [193, 137, 138, 194, 195, 196, 2, 197, 23, 143, 144, 145, 146, 147, 148, 149, 150, 151, 152, 153, 154, 15, 69, 70, 71, 72, 14, 198, 199, 200, 201, 202, 203, 204, 205, 20, 163, 164, 165, 166, 21, 17, 300, 301, 302, 303, 304, 305, 306, 307, 308, 309, 310] (by decide +kernel) (by decide +kernel)) (goodIn_sub (fun _ h => List.mem_append_left _ (List.mem_append_left _ (List.mem_append_right _ h))) (by decide +kernel))) (goodIn_sub (fun _ h => List.mem_append_left _ (List.mem_append_right _ h)) (by decide +kernel))
set_option maxRecDepth 20000 in
theorem gL_law_L_backward : GoodIn wsL_law (va_wsS RL 77 yL_backward wsL_backward) := goodIn_app (goodIn_of _ (by decide +kernel)) ggL_law_L_backward
set_option maxRecDepth 20000 in
theorem ggL_law_X1_backward : GoodIn wsL_law wsX1_backward := goodIn_r _ [209, 55, 38, 171, 172, 173, 5, 174, 56, 80, 81, 82, 83, 42, 210, 211, 212, 213, 35, 39, 183, 184, 185, 186, 179, 180, 181, 182, 36, 37, 311, 312, 313, 314, 315, 316, 317, 318, 319, 320, 321] (by decide +kernel) (by decide +kernel)
set_option maxRecDepth 20000 in
theorem gL_law_X1_backward : GoodIn wsL_law (wsV RL 79 RX1 yX1_backward wsX1_backward) := goodIn_app (goodIn_of _ (by decide +kernel)) ggL_law_X1_backward
set_option maxRecDepth 20000 in
theorem ggL_law_X0_total : GoodIn wsL_law wsX0_total := goodIn_r _ [217, 15, 155, 156, 157, 2, 158, 14, 18, 22, 159, 160, 161, 162, 20, 163, 164, 165, 166, 21, 17, 218, 219, 220, 221, 300, 301, 302, 303, 304, 305, 306, 307, 308, 309, 310] (by decide +kernel) (by decide +kernel)
set_option maxRecDepth 20000 in
theorem gL_law_X0_total : GoodIn wsL_law (wsV RL 80 RX0 yX0_total wsX0_total) := goodIn_app (goodIn_of _ (by decide +kernel)) ggL_law_X0_total
set_option maxRecDepth 20000 in
theorem ggL_law_X1_total : GoodIn wsL_law wsX1_total := goodIn_r _ [225, 55, 226, 227, 228, 5, 229, 56, 42, 38, 175, 176, 177, 178, 34, 39, 35, 179, 180, 181, 182, 36, 37, 183, 184, 185, 186, 311, 312, 313, 314, 315, 316, 317, 318, 319, 320, 321] (by decide +kernel) (by decide +kernel)
set_option maxRecDepth 20000 in
theorem gL_law_X1_total : GoodIn wsL_law (wsV RL 84 RX1 yX1_total wsX1_total) := goodIn_app (goodIn_of _ (by decide +kernel)) ggL_law_X1_total
set_option maxRecDepth 20000 in
theorem ggL_law_X0_best : GoodIn wsL_law wsX0_best := goodIn_r _ [233, 15, 24, 234, 235, 236, 2, 237, 14, 18, 26, 20, 163, 164, 165, 166, 21, 17, 238, 239, 240, 241, 242, 243, 244, 245, 300, 301, 302, 303, 304, 305, 306, 307, 308, 309, 310] (by decide +kernel) (by decide +kernel)
set_option maxRecDepth 20000 in
theorem gL_law_X0_best : GoodIn wsL_law (wsV RL 85 RX0 yX0_best wsX0_best) := goodIn_app (goodIn_of _ (by decide +kernel)) ggL_law_X0_best
set_option maxRecDepth 20000 in
theorem ggL_law_X1_best : GoodIn wsL_law wsX1_best := goodIn_r _ [249, 55, 56, 38, 250, 251, 252, 5, 253, 42, 34, 39, 35, 179, 180, 181, 182, 36, 37, 183, 184, 185, 186, 254, 255, 256, 257, 258, 259, 260, 261, 311, 312, 313, 314, 315, 316, 317, 318, 319, 320, 321] (by decide +kernel) (by decide +kernel)
set_option maxRecDepth 20000 in
theorem gL_law_X1_best : GoodIn wsL_law (wsV RL 88 RX1 yX1_best wsX1_best) := goodIn_app (goodIn_of _ (by decide +kernel)) ggL_law_X1_best
set_option maxRecDepth 20000 in
theorem ggL_law_X0_bestState : GoodIn wsL_law wsX0_bestState := goodIn_r _ [265, 15, 26, 151, 152, 153, 2, 154, 234, 235, 236, 237, 14, 24, 18, 20, 163, 164, 165, 166, 21, 17, 238, 239, 240, 241, 242, 243, 244, 245, 300, 301, 302, 303, 304, 305, 306, 307, 308, 309, 310] (by decide +kernel) (by decide +kernel)
set_option maxRecDepth 20000 in
theorem gL_law_X0_bestState : GoodIn wsL_law (wsV RL 89 RX0 yX0_bestState wsX0_bestState) := goodIn_app (goodIn_of _ (by decide +kernel)) ggL_law_X0_bestState
set_option maxRecDepth 20000 in
theorem ggL_law_X1_bestState : GoodIn wsL_law wsX1_bestState := goodIn_r _ [269, 55, 56, 250, 251, 252, 5, 253, 42, 38, 34, 39, 35, 179, 180, 181, 182, 36, 37, 183, 184, 185, 186, 254, 255, 256, 257, 258, 259, 260, 261, 311, 312, 313, 314, 315, 316, 317, 318, 319, 320, 321] (by decide +kernel) (by decide +kernel)
set_option maxRecDepth 20000 in
theorem gL_law_X1_bestState : GoodIn wsL_law (wsV RL 93 RX1 yX1_bestState wsX1_bestState) := goodIn_app (goodIn_of _ (by decide +kernel)) ggL_law_X1_bestState
set_option maxRecDepth 20000 in
theorem ggL_law_L_share : GoodIn wsL_law wsL_share := goodIn_ca (goodIn_ca (goodIn_ca (goodIn_r _ [272, 137, 138, 273, 274, 275, 276, 2, 277, 278, 279, 22, 23, 143, 144, 145, 146, 147, 148, 149, 150, 151, 152, 153, 154, 15, 69, 70, 71, 72, 14, 155, 156, 157, 158, 18, 159, 160, 161, 162, 20, 163, 164, 165, 166, 21, 17, 218, 219, 220, 221, 198, 199, 200, 201, 202, 203, 204, 205, 300, 301, 302, 303, 304, 305, 306, 307, 308, 309, 310] (by decide +kernel) (by decide +kernel)) (goodIn_sub (fun _ h => List.mem_append_right _ h) (by decide +kernel))) (goodIn_sub (fun _ h => List.mem_append_left _ (List.mem_append_left _ (List.mem_append_right _ h))) (by decide +kernel))) (goodIn_sub (fun _ h => List.mem_append_left _ (List.mem_append_right _ h)) (by decide +kernel))
set_option maxRecDepth 20000 in
theorem gL_law_L_share : GoodIn wsL_law (va_wsS RL 94 yL_share wsL_share) := goodIn_app (goodIn_of _ (by decide +kernel)) ggL_law_L_share
set_option maxRecDepth 20000 in
theorem ggL_law_X1_share : GoodIn wsL_law wsX1_share := goodIn_r _ [283, 55, 38, 171, 172, 173, 5, 174, 56, 80, 81, 82, 83, 42, 226, 227, 228, 229, 175, 176, 177, 178, 34, 39, 35, 179, 180, 181, 182, 36, 37, 183, 184, 185, 186, 210, 211, 212, 213, 311, 312, 313, 314, 315, 316, 317, 318, 319, 320, 321] (by decide +kernel) (by decide +kernel)
set_option maxRecDepth 20000 in
theorem gL_law_X1_share : GoodIn wsL_law (wsV RL 96 RX1 yX1_share wsX1_share) := goodIn_app (goodIn_of _ (by decide +kernel)) ggL_law_X1_share
set_option maxRecDepth 20000 in
theorem ggL_law_X0_possible : GoodIn wsL_law wsX0_possible := goodIn_r _ [287, 15, 14, 29, 288, 289, 290, 2, 291, 163, 164, 165, 166, 21, 17, 292, 293, 294, 295, 18, 20, 300, 301, 302, 303, 304, 305, 306, 307, 308, 309, 310] (by decide +kernel) (by decide +kernel)
set_option maxRecDepth 20000 in
theorem gL_law_X0_possible : GoodIn wsL_law (wsV RL 97 RX0 yX0_possible wsX0_possible) := goodIn_app (goodIn_of _ (by decide +kernel)) ggL_law_X0_possible
set_option maxRecDepth 20000 in
theorem ggL_law_X1_possible : GoodIn wsL_law wsX1_possible := goodIn_r _ [299, 55, 56, 40, 42, 34, 41, 35, 179, 180, 181, 5, 182, 36, 37, 311, 312, 313, 314, 315, 316, 317, 318, 319, 320, 321] (by decide +kernel) (by decide +kernel)
set_option maxRecDepth 20000 in
theorem gL_law_X1_possible : GoodIn wsL_law (wsV RL 101 RX1 yX1_possible wsX1_possible) := goodIn_app (goodIn_of _ (by decide +kernel)) ggL_law_X1_possible
theorem dL_law_0 : decode cL_law 0 = .ok (.new 8, 3) := by decide +kernel
theorem dL_law_3 : decode cL_law 3 = .ok (.dup, 1) := by decide +kernel
theorem dL_law_4 : decode cL_law 4 = .ok (.invokespecial 25, 3) := by decide +kernel
theorem dL_law_7 : decode cL_law 7 = .ok (.astore_n 1, 1) := by decide +kernel
theorem dL_law_8 : decode cL_law 8 = .ok (.new 26, 3) := by decide +kernel
theorem dL_law_11 : decode cL_law 11 = .ok (.dup, 1) := by decide +kernel
theorem dL_law_12 : decode cL_law 12 = .ok (.invokespecial 28, 3) := by decide +kernel
theorem dL_law_15 : decode cL_law 15 = .ok (.astore_n 2, 1) := by decide +kernel
theorem dL_law_16 : decode cL_law 16 = .ok (.iconst 1, 1) := by decide +kernel
theorem dL_law_17 : decode cL_law 17 = .ok (.newarray .double, 2) := by decide +kernel
theorem dL_law_19 : decode cL_law 19 = .ok (.astore_n 3, 1) := by decide +kernel
theorem dL_law_20 : decode cL_law 20 = .ok (.iconst 0, 1) := by decide +kernel
theorem dL_law_21 : decode cL_law 21 = .ok (.istore 4, 2) := by decide +kernel
theorem dL_law_23 : decode cL_law 23 = .ok (.iload 4, 2) := by decide +kernel
theorem dL_law_25 : decode cL_law 25 = .ok (.aload_n 0, 1) := by decide +kernel
theorem dL_law_26 : decode cL_law 26 = .ok (.arraylength, 1) := by decide +kernel
theorem dL_law_27 : decode cL_law 27 = .ok (.iconst 4, 1) := by decide +kernel
theorem dL_law_28 : decode cL_law 28 = .ok (.isub, 1) := by decide +kernel
theorem dL_law_29 : decode cL_law 29 = .ok (.if_icmp .gt 719, 3) := by decide +kernel
theorem dL_law_32 : decode cL_law 32 = .ok (.aload_n 0, 1) := by decide +kernel
theorem dL_law_33 : decode cL_law 33 = .ok (.iload 4, 2) := by decide +kernel
theorem dL_law_35 : decode cL_law 35 = .ok (.iaload, 1) := by decide +kernel
theorem dL_law_36 : decode cL_law 36 = .ok (.bipush 15, 2) := by decide +kernel
theorem dL_law_38 : decode cL_law 38 = .ok (.iand, 1) := by decide +kernel
theorem dL_law_39 : decode cL_law 39 = .ok (.tableswitch 703 0 14 #[73, 98, 111, 158, 217, 276, 301, 314, 327, 412, 497, 538, 579, 604, 689], 73) := by decide +kernel
theorem dL_law_112 : decode cL_law 112 = .ok (.aload_n 1, 1) := by decide +kernel
theorem dL_law_113 : decode cL_law 113 = .ok (.aload_n 0, 1) := by decide +kernel
theorem dL_law_114 : decode cL_law 114 = .ok (.iload 4, 2) := by decide +kernel
theorem dL_law_116 : decode cL_law 116 = .ok (.iconst 1, 1) := by decide +kernel
theorem dL_law_117 : decode cL_law 117 = .ok (.iadd, 1) := by decide +kernel
theorem dL_law_118 : decode cL_law 118 = .ok (.iaload, 1) := by decide +kernel
theorem dL_law_119 : decode cL_law 119 = .ok (.invokevirtual 29, 3) := by decide +kernel
theorem dL_law_122 : decode cL_law 122 = .ok (.aload_n 2, 1) := by decide +kernel
theorem dL_law_123 : decode cL_law 123 = .ok (.aload_n 0, 1) := by decide +kernel
theorem dL_law_124 : decode cL_law 124 = .ok (.iload 4, 2) := by decide +kernel
theorem dL_law_126 : decode cL_law 126 = .ok (.iconst 1, 1) := by decide +kernel
theorem dL_law_127 : decode cL_law 127 = .ok (.iadd, 1) := by decide +kernel
theorem dL_law_128 : decode cL_law 128 = .ok (.iaload, 1) := by decide +kernel
theorem dL_law_129 : decode cL_law 129 = .ok (.invokevirtual 33, 3) := by decide +kernel
theorem dL_law_132 : decode cL_law 132 = .ok (.if_icmp .eq 610, 3) := by decide +kernel
theorem dL_law_135 : decode cL_law 135 = .ok (.iconst 0, 1) := by decide +kernel
theorem dL_law_136 : decode cL_law 136 = .ok (.ireturn, 1) := by decide +kernel
theorem dL_law_137 : decode cL_law 137 = .ok (.aload_n 1, 1) := by decide +kernel
theorem dL_law_138 : decode cL_law 138 = .ok (.invokevirtual 34, 3) := by decide +kernel
theorem dL_law_141 : decode cL_law 141 = .ok (.aload_n 2, 1) := by decide +kernel
theorem dL_law_142 : decode cL_law 142 = .ok (.invokevirtual 38, 3) := by decide +kernel
theorem dL_law_145 : decode cL_law 145 = .ok (.if_icmp .eq 597, 3) := by decide +kernel
theorem dL_law_148 : decode cL_law 148 = .ok (.iconst 0, 1) := by decide +kernel
theorem dL_law_149 : decode cL_law 149 = .ok (.ireturn, 1) := by decide +kernel
theorem dL_law_150 : decode cL_law 150 = .ok (.aload_n 1, 1) := by decide +kernel
theorem dL_law_151 : decode cL_law 151 = .ok (.aload_n 0, 1) := by decide +kernel
theorem dL_law_152 : decode cL_law 152 = .ok (.iload 4, 2) := by decide +kernel
theorem dL_law_154 : decode cL_law 154 = .ok (.iconst 1, 1) := by decide +kernel
theorem dL_law_155 : decode cL_law 155 = .ok (.iadd, 1) := by decide +kernel
theorem dL_law_156 : decode cL_law 156 = .ok (.iaload, 1) := by decide +kernel
theorem dL_law_157 : decode cL_law 157 = .ok (.aload_n 0, 1) := by decide +kernel
theorem dL_law_158 : decode cL_law 158 = .ok (.iload 4, 2) := by decide +kernel
theorem dL_law_160 : decode cL_law 160 = .ok (.iconst 2, 1) := by decide +kernel
theorem dL_law_161 : decode cL_law 161 = .ok (.iadd, 1) := by decide +kernel
theorem dL_law_162 : decode cL_law 162 = .ok (.iaload, 1) := by decide +kernel
theorem dL_law_163 : decode cL_law 163 = .ok (.i2d, 1) := by decide +kernel
theorem dL_law_164 : decode cL_law 164 = .ok (.ldc2_w 39, 3) := by decide +kernel
theorem dL_law_167 : decode cL_law 167 = .ok (.dmul, 1) := by decide +kernel
theorem dL_law_168 : decode cL_law 168 = .ok (.invokevirtual 41, 3) := by decide +kernel
theorem dL_law_171 : decode cL_law 171 = .ok (.aload_n 2, 1) := by decide +kernel
theorem dL_law_172 : decode cL_law 172 = .ok (.aload_n 0, 1) := by decide +kernel
theorem dL_law_173 : decode cL_law 173 = .ok (.iload 4, 2) := by decide +kernel
theorem dL_law_175 : decode cL_law 175 = .ok (.iconst 1, 1) := by decide +kernel
theorem dL_law_176 : decode cL_law 176 = .ok (.iadd, 1) := by decide +kernel
theorem dL_law_177 : decode cL_law 177 = .ok (.iaload, 1) := by decide +kernel
theorem dL_law_178 : decode cL_law 178 = .ok (.aload_n 0, 1) := by decide +kernel
theorem dL_law_179 : decode cL_law 179 = .ok (.iload 4, 2) := by decide +kernel
theorem dL_law_181 : decode cL_law 181 = .ok (.iconst 2, 1) := by decide +kernel
theorem dL_law_182 : decode cL_law 182 = .ok (.iadd, 1) := by decide +kernel
theorem dL_law_183 : decode cL_law 183 = .ok (.iaload, 1) := by decide +kernel
theorem dL_law_184 : decode cL_law 184 = .ok (.i2d, 1) := by decide +kernel
theorem dL_law_185 : decode cL_law 185 = .ok (.ldc2_w 39, 3) := by decide +kernel
theorem dL_law_188 : decode cL_law 188 = .ok (.dmul, 1) := by decide +kernel
theorem dL_law_189 : decode cL_law 189 = .ok (.invokevirtual 45, 3) := by decide +kernel
theorem dL_law_192 : decode cL_law 192 = .ok (.if_icmp .eq 550, 3) := by decide +kernel
theorem dL_law_195 : decode cL_law 195 = .ok (.iconst 0, 1) := by decide +kernel
theorem dL_law_196 : decode cL_law 196 = .ok (.ireturn, 1) := by decide +kernel
theorem dL_law_197 : decode cL_law 197 = .ok (.aload_n 1, 1) := by decide +kernel
theorem dL_law_198 : decode cL_law 198 = .ok (.aload_n 0, 1) := by decide +kernel
theorem dL_law_199 : decode cL_law 199 = .ok (.iload 4, 2) := by decide +kernel
theorem dL_law_201 : decode cL_law 201 = .ok (.iconst 1, 1) := by decide +kernel
theorem dL_law_202 : decode cL_law 202 = .ok (.iadd, 1) := by decide +kernel
theorem dL_law_203 : decode cL_law 203 = .ok (.iaload, 1) := by decide +kernel
theorem dL_law_204 : decode cL_law 204 = .ok (.aload_n 0, 1) := by decide +kernel
theorem dL_law_205 : decode cL_law 205 = .ok (.iload 4, 2) := by decide +kernel
theorem dL_law_207 : decode cL_law 207 = .ok (.iconst 2, 1) := by decide +kernel
theorem dL_law_208 : decode cL_law 208 = .ok (.iadd, 1) := by decide +kernel
theorem dL_law_209 : decode cL_law 209 = .ok (.iaload, 1) := by decide +kernel
theorem dL_law_210 : decode cL_law 210 = .ok (.aload_n 0, 1) := by decide +kernel
theorem dL_law_211 : decode cL_law 211 = .ok (.iload 4, 2) := by decide +kernel
theorem dL_law_213 : decode cL_law 213 = .ok (.iconst 3, 1) := by decide +kernel
theorem dL_law_214 : decode cL_law 214 = .ok (.iadd, 1) := by decide +kernel
theorem dL_law_215 : decode cL_law 215 = .ok (.iaload, 1) := by decide +kernel
theorem dL_law_216 : decode cL_law 216 = .ok (.i2d, 1) := by decide +kernel
theorem dL_law_217 : decode cL_law 217 = .ok (.ldc2_w 39, 3) := by decide +kernel
theorem dL_law_220 : decode cL_law 220 = .ok (.dmul, 1) := by decide +kernel
theorem dL_law_221 : decode cL_law 221 = .ok (.invokevirtual 46, 3) := by decide +kernel
theorem dL_law_224 : decode cL_law 224 = .ok (.aload_n 2, 1) := by decide +kernel
theorem dL_law_225 : decode cL_law 225 = .ok (.aload_n 0, 1) := by decide +kernel
theorem dL_law_226 : decode cL_law 226 = .ok (.iload 4, 2) := by decide +kernel
theorem dL_law_228 : decode cL_law 228 = .ok (.iconst 1, 1) := by decide +kernel
theorem dL_law_229 : decode cL_law 229 = .ok (.iadd, 1) := by decide +kernel
theorem dL_law_230 : decode cL_law 230 = .ok (.iaload, 1) := by decide +kernel
theorem dL_law_231 : decode cL_law 231 = .ok (.aload_n 0, 1) := by decide +kernel
theorem dL_law_232 : decode cL_law 232 = .ok (.iload 4, 2) := by decide +kernel
theorem dL_law_234 : decode cL_law 234 = .ok (.iconst 2, 1) := by decide +kernel
theorem dL_law_235 : decode cL_law 235 = .ok (.iadd, 1) := by decide +kernel
theorem dL_law_236 : decode cL_law 236 = .ok (.iaload, 1) := by decide +kernel
theorem dL_law_237 : decode cL_law 237 = .ok (.aload_n 0, 1) := by decide +kernel
theorem dL_law_238 : decode cL_law 238 = .ok (.iload 4, 2) := by decide +kernel
theorem dL_law_240 : decode cL_law 240 = .ok (.iconst 3, 1) := by decide +kernel
theorem dL_law_241 : decode cL_law 241 = .ok (.iadd, 1) := by decide +kernel
theorem dL_law_242 : decode cL_law 242 = .ok (.iaload, 1) := by decide +kernel
theorem dL_law_243 : decode cL_law 243 = .ok (.i2d, 1) := by decide +kernel
theorem dL_law_244 : decode cL_law 244 = .ok (.ldc2_w 39, 3) := by decide +kernel
theorem dL_law_247 : decode cL_law 247 = .ok (.dmul, 1) := by decide +kernel
theorem dL_law_248 : decode cL_law 248 = .ok (.invokevirtual 50, 3) := by decide +kernel
theorem dL_law_251 : decode cL_law 251 = .ok (.if_icmp .eq 491, 3) := by decide +kernel
theorem dL_law_254 : decode cL_law 254 = .ok (.iconst 0, 1) := by decide +kernel
theorem dL_law_255 : decode cL_law 255 = .ok (.ireturn, 1) := by decide +kernel
theorem dL_law_256 : decode cL_law 256 = .ok (.aload_n 1, 1) := by decide +kernel
theorem dL_law_257 : decode cL_law 257 = .ok (.aload_n 0, 1) := by decide +kernel
theorem dL_law_258 : decode cL_law 258 = .ok (.iload 4, 2) := by decide +kernel
theorem dL_law_260 : decode cL_law 260 = .ok (.iconst 1, 1) := by decide +kernel
theorem dL_law_261 : decode cL_law 261 = .ok (.iadd, 1) := by decide +kernel
theorem dL_law_262 : decode cL_law 262 = .ok (.iaload, 1) := by decide +kernel
theorem dL_law_263 : decode cL_law 263 = .ok (.aload_n 0, 1) := by decide +kernel
theorem dL_law_264 : decode cL_law 264 = .ok (.iload 4, 2) := by decide +kernel
theorem dL_law_266 : decode cL_law 266 = .ok (.iconst 2, 1) := by decide +kernel
theorem dL_law_267 : decode cL_law 267 = .ok (.iadd, 1) := by decide +kernel
theorem dL_law_268 : decode cL_law 268 = .ok (.iaload, 1) := by decide +kernel
theorem dL_law_269 : decode cL_law 269 = .ok (.aload_n 0, 1) := by decide +kernel
theorem dL_law_270 : decode cL_law 270 = .ok (.iload 4, 2) := by decide +kernel
theorem dL_law_272 : decode cL_law 272 = .ok (.iconst 3, 1) := by decide +kernel
theorem dL_law_273 : decode cL_law 273 = .ok (.iadd, 1) := by decide +kernel
theorem dL_law_274 : decode cL_law 274 = .ok (.iaload, 1) := by decide +kernel
theorem dL_law_275 : decode cL_law 275 = .ok (.i2d, 1) := by decide +kernel
theorem dL_law_276 : decode cL_law 276 = .ok (.ldc2_w 39, 3) := by decide +kernel
theorem dL_law_279 : decode cL_law 279 = .ok (.dmul, 1) := by decide +kernel
theorem dL_law_280 : decode cL_law 280 = .ok (.invokevirtual 51, 3) := by decide +kernel
theorem dL_law_283 : decode cL_law 283 = .ok (.aload_n 2, 1) := by decide +kernel
theorem dL_law_284 : decode cL_law 284 = .ok (.aload_n 0, 1) := by decide +kernel
theorem dL_law_285 : decode cL_law 285 = .ok (.iload 4, 2) := by decide +kernel
theorem dL_law_287 : decode cL_law 287 = .ok (.iconst 1, 1) := by decide +kernel
theorem dL_law_288 : decode cL_law 288 = .ok (.iadd, 1) := by decide +kernel
theorem dL_law_289 : decode cL_law 289 = .ok (.iaload, 1) := by decide +kernel
theorem dL_law_290 : decode cL_law 290 = .ok (.aload_n 0, 1) := by decide +kernel
theorem dL_law_291 : decode cL_law 291 = .ok (.iload 4, 2) := by decide +kernel
theorem dL_law_293 : decode cL_law 293 = .ok (.iconst 2, 1) := by decide +kernel
theorem dL_law_294 : decode cL_law 294 = .ok (.iadd, 1) := by decide +kernel
theorem dL_law_295 : decode cL_law 295 = .ok (.iaload, 1) := by decide +kernel
theorem dL_law_296 : decode cL_law 296 = .ok (.aload_n 0, 1) := by decide +kernel
theorem dL_law_297 : decode cL_law 297 = .ok (.iload 4, 2) := by decide +kernel
theorem dL_law_299 : decode cL_law 299 = .ok (.iconst 3, 1) := by decide +kernel
theorem dL_law_300 : decode cL_law 300 = .ok (.iadd, 1) := by decide +kernel
theorem dL_law_301 : decode cL_law 301 = .ok (.iaload, 1) := by decide +kernel
theorem dL_law_302 : decode cL_law 302 = .ok (.i2d, 1) := by decide +kernel
theorem dL_law_303 : decode cL_law 303 = .ok (.ldc2_w 39, 3) := by decide +kernel
theorem dL_law_306 : decode cL_law 306 = .ok (.dmul, 1) := by decide +kernel
theorem dL_law_307 : decode cL_law 307 = .ok (.invokevirtual 54, 3) := by decide +kernel
theorem dL_law_310 : decode cL_law 310 = .ok (.if_icmp .eq 432, 3) := by decide +kernel
theorem dL_law_313 : decode cL_law 313 = .ok (.iconst 0, 1) := by decide +kernel
theorem dL_law_314 : decode cL_law 314 = .ok (.ireturn, 1) := by decide +kernel
theorem dL_law_315 : decode cL_law 315 = .ok (.aload_n 1, 1) := by decide +kernel
theorem dL_law_316 : decode cL_law 316 = .ok (.aload_n 0, 1) := by decide +kernel
theorem dL_law_317 : decode cL_law 317 = .ok (.iload 4, 2) := by decide +kernel
theorem dL_law_319 : decode cL_law 319 = .ok (.iconst 1, 1) := by decide +kernel
theorem dL_law_320 : decode cL_law 320 = .ok (.iadd, 1) := by decide +kernel
theorem dL_law_321 : decode cL_law 321 = .ok (.iaload, 1) := by decide +kernel
theorem dL_law_322 : decode cL_law 322 = .ok (.invokevirtual 55, 3) := by decide +kernel
theorem dL_law_325 : decode cL_law 325 = .ok (.aload_n 2, 1) := by decide +kernel
theorem dL_law_326 : decode cL_law 326 = .ok (.aload_n 0, 1) := by decide +kernel
theorem dL_law_327 : decode cL_law 327 = .ok (.iload 4, 2) := by decide +kernel
theorem dL_law_329 : decode cL_law 329 = .ok (.iconst 1, 1) := by decide +kernel
theorem dL_law_330 : decode cL_law 330 = .ok (.iadd, 1) := by decide +kernel
theorem dL_law_331 : decode cL_law 331 = .ok (.iaload, 1) := by decide +kernel
theorem dL_law_332 : decode cL_law 332 = .ok (.invokevirtual 58, 3) := by decide +kernel
theorem dL_law_335 : decode cL_law 335 = .ok (.if_icmp .eq 407, 3) := by decide +kernel
theorem dL_law_338 : decode cL_law 338 = .ok (.iconst 0, 1) := by decide +kernel
theorem dL_law_339 : decode cL_law 339 = .ok (.ireturn, 1) := by decide +kernel
theorem dL_law_340 : decode cL_law 340 = .ok (.aload_n 1, 1) := by decide +kernel
theorem dL_law_341 : decode cL_law 341 = .ok (.invokevirtual 59, 3) := by decide +kernel
theorem dL_law_344 : decode cL_law 344 = .ok (.aload_n 2, 1) := by decide +kernel
theorem dL_law_345 : decode cL_law 345 = .ok (.invokevirtual 63, 3) := by decide +kernel
theorem dL_law_348 : decode cL_law 348 = .ok (.if_icmp .eq 394, 3) := by decide +kernel
theorem dL_law_351 : decode cL_law 351 = .ok (.iconst 0, 1) := by decide +kernel
theorem dL_law_352 : decode cL_law 352 = .ok (.ireturn, 1) := by decide +kernel
theorem dL_law_353 : decode cL_law 353 = .ok (.aload_n 1, 1) := by decide +kernel
theorem dL_law_354 : decode cL_law 354 = .ok (.invokevirtual 64, 3) := by decide +kernel
theorem dL_law_357 : decode cL_law 357 = .ok (.aload_n 2, 1) := by decide +kernel
theorem dL_law_358 : decode cL_law 358 = .ok (.invokevirtual 67, 3) := by decide +kernel
theorem dL_law_361 : decode cL_law 361 = .ok (.if_icmp .eq 381, 3) := by decide +kernel
theorem dL_law_364 : decode cL_law 364 = .ok (.iconst 0, 1) := by decide +kernel
theorem dL_law_365 : decode cL_law 365 = .ok (.ireturn, 1) := by decide +kernel
theorem dL_law_366 : decode cL_law 366 = .ok (.aload_n 1, 1) := by decide +kernel
theorem dL_law_367 : decode cL_law 367 = .ok (.aload_n 0, 1) := by decide +kernel
theorem dL_law_368 : decode cL_law 368 = .ok (.iload 4, 2) := by decide +kernel
theorem dL_law_370 : decode cL_law 370 = .ok (.iconst 1, 1) := by decide +kernel
theorem dL_law_371 : decode cL_law 371 = .ok (.iadd, 1) := by decide +kernel
theorem dL_law_372 : decode cL_law 372 = .ok (.iaload, 1) := by decide +kernel
theorem dL_law_373 : decode cL_law 373 = .ok (.aload_n 0, 1) := by decide +kernel
theorem dL_law_374 : decode cL_law 374 = .ok (.iload 4, 2) := by decide +kernel
theorem dL_law_376 : decode cL_law 376 = .ok (.iconst 2, 1) := by decide +kernel
theorem dL_law_377 : decode cL_law 377 = .ok (.iadd, 1) := by decide +kernel
theorem dL_law_378 : decode cL_law 378 = .ok (.iaload, 1) := by decide +kernel
theorem dL_law_379 : decode cL_law 379 = .ok (.aload_n 3, 1) := by decide +kernel
theorem dL_law_380 : decode cL_law 380 = .ok (.invokestatic 68, 3) := by decide +kernel
theorem dL_law_383 : decode cL_law 383 = .ok (.istore 5, 2) := by decide +kernel
theorem dL_law_385 : decode cL_law 385 = .ok (.aload_n 2, 1) := by decide +kernel
theorem dL_law_386 : decode cL_law 386 = .ok (.aload_n 0, 1) := by decide +kernel
theorem dL_law_387 : decode cL_law 387 = .ok (.iload 4, 2) := by decide +kernel
theorem dL_law_389 : decode cL_law 389 = .ok (.iconst 1, 1) := by decide +kernel
theorem dL_law_390 : decode cL_law 390 = .ok (.iadd, 1) := by decide +kernel
theorem dL_law_391 : decode cL_law 391 = .ok (.iaload, 1) := by decide +kernel
theorem dL_law_392 : decode cL_law 392 = .ok (.aload_n 0, 1) := by decide +kernel
theorem dL_law_393 : decode cL_law 393 = .ok (.iload 4, 2) := by decide +kernel
theorem dL_law_395 : decode cL_law 395 = .ok (.iconst 2, 1) := by decide +kernel
theorem dL_law_396 : decode cL_law 396 = .ok (.iadd, 1) := by decide +kernel
theorem dL_law_397 : decode cL_law 397 = .ok (.iaload, 1) := by decide +kernel
theorem dL_law_398 : decode cL_law 398 = .ok (.invokevirtual 73, 3) := by decide +kernel
theorem dL_law_401 : decode cL_law 401 = .ok (.dstore 6, 2) := by decide +kernel
theorem dL_law_403 : decode cL_law 403 = .ok (.aload_n 2, 1) := by decide +kernel
theorem dL_law_404 : decode cL_law 404 = .ok (.invokevirtual 74, 3) := by decide +kernel
theorem dL_law_407 : decode cL_law 407 = .ok (.iload 5, 2) := by decide +kernel
theorem dL_law_409 : decode cL_law 409 = .ok (.if_icmp .eq 5, 3) := by decide +kernel
theorem dL_law_412 : decode cL_law 412 = .ok (.iconst 0, 1) := by decide +kernel
theorem dL_law_413 : decode cL_law 413 = .ok (.ireturn, 1) := by decide +kernel
theorem dL_law_414 : decode cL_law 414 = .ok (.iload 5, 2) := by decide +kernel
theorem dL_law_416 : decode cL_law 416 = .ok (.ifCond .ne 32, 3) := by decide +kernel
theorem dL_law_419 : decode cL_law 419 = .ok (.aload_n 3, 1) := by decide +kernel
theorem dL_law_420 : decode cL_law 420 = .ok (.iconst 0, 1) := by decide +kernel
theorem dL_law_421 : decode cL_law 421 = .ok (.daload, 1) := by decide +kernel
theorem dL_law_422 : decode cL_law 422 = .ok (.dload 6, 2) := by decide +kernel
theorem dL_law_424 : decode cL_law 424 = .ok (.dcmp .l, 1) := by decide +kernel
theorem dL_law_425 : decode cL_law 425 = .ok (.ifCond .eq 23, 3) := by decide +kernel
theorem dL_law_428 : decode cL_law 428 = .ok (.aload_n 3, 1) := by decide +kernel
theorem dL_law_429 : decode cL_law 429 = .ok (.iconst 0, 1) := by decide +kernel
theorem dL_law_430 : decode cL_law 430 = .ok (.daload, 1) := by decide +kernel
theorem dL_law_431 : decode cL_law 431 = .ok (.aload_n 3, 1) := by decide +kernel
theorem dL_law_432 : decode cL_law 432 = .ok (.iconst 0, 1) := by decide +kernel
theorem dL_law_433 : decode cL_law 433 = .ok (.daload, 1) := by decide +kernel
theorem dL_law_434 : decode cL_law 434 = .ok (.dcmp .l, 1) := by decide +kernel
theorem dL_law_435 : decode cL_law 435 = .ok (.ifCond .eq 11, 3) := by decide +kernel
theorem dL_law_438 : decode cL_law 438 = .ok (.dload 6, 2) := by decide +kernel
theorem dL_law_440 : decode cL_law 440 = .ok (.dload 6, 2) := by decide +kernel
theorem dL_law_442 : decode cL_law 442 = .ok (.dcmp .l, 1) := by decide +kernel
theorem dL_law_443 : decode cL_law 443 = .ok (.ifCond .ne 5, 3) := by decide +kernel
theorem dL_law_446 : decode cL_law 446 = .ok (.iconst 0, 1) := by decide +kernel
theorem dL_law_447 : decode cL_law 447 = .ok (.ireturn, 1) := by decide +kernel
theorem dL_law_448 : decode cL_law 448 = .ok (.goto 294, 3) := by decide +kernel
theorem dL_law_451 : decode cL_law 451 = .ok (.aload_n 1, 1) := by decide +kernel
theorem dL_law_452 : decode cL_law 452 = .ok (.aload_n 0, 1) := by decide +kernel
theorem dL_law_453 : decode cL_law 453 = .ok (.iload 4, 2) := by decide +kernel
theorem dL_law_455 : decode cL_law 455 = .ok (.iconst 1, 1) := by decide +kernel
theorem dL_law_456 : decode cL_law 456 = .ok (.iadd, 1) := by decide +kernel
theorem dL_law_457 : decode cL_law 457 = .ok (.iaload, 1) := by decide +kernel
theorem dL_law_458 : decode cL_law 458 = .ok (.aload_n 0, 1) := by decide +kernel
theorem dL_law_459 : decode cL_law 459 = .ok (.iload 4, 2) := by decide +kernel
theorem dL_law_461 : decode cL_law 461 = .ok (.iconst 2, 1) := by decide +kernel
theorem dL_law_462 : decode cL_law 462 = .ok (.iadd, 1) := by decide +kernel
theorem dL_law_463 : decode cL_law 463 = .ok (.iaload, 1) := by decide +kernel
theorem dL_law_464 : decode cL_law 464 = .ok (.aload_n 3, 1) := by decide +kernel
theorem dL_law_465 : decode cL_law 465 = .ok (.invokestatic 77, 3) := by decide +kernel
theorem dL_law_468 : decode cL_law 468 = .ok (.istore 5, 2) := by decide +kernel
theorem dL_law_470 : decode cL_law 470 = .ok (.aload_n 2, 1) := by decide +kernel
theorem dL_law_471 : decode cL_law 471 = .ok (.aload_n 0, 1) := by decide +kernel
theorem dL_law_472 : decode cL_law 472 = .ok (.iload 4, 2) := by decide +kernel
theorem dL_law_474 : decode cL_law 474 = .ok (.iconst 1, 1) := by decide +kernel
theorem dL_law_475 : decode cL_law 475 = .ok (.iadd, 1) := by decide +kernel
theorem dL_law_476 : decode cL_law 476 = .ok (.iaload, 1) := by decide +kernel
theorem dL_law_477 : decode cL_law 477 = .ok (.aload_n 0, 1) := by decide +kernel
theorem dL_law_478 : decode cL_law 478 = .ok (.iload 4, 2) := by decide +kernel
theorem dL_law_480 : decode cL_law 480 = .ok (.iconst 2, 1) := by decide +kernel
theorem dL_law_481 : decode cL_law 481 = .ok (.iadd, 1) := by decide +kernel
theorem dL_law_482 : decode cL_law 482 = .ok (.iaload, 1) := by decide +kernel
theorem dL_law_483 : decode cL_law 483 = .ok (.invokevirtual 79, 3) := by decide +kernel
theorem dL_law_486 : decode cL_law 486 = .ok (.dstore 6, 2) := by decide +kernel
theorem dL_law_488 : decode cL_law 488 = .ok (.aload_n 2, 1) := by decide +kernel
theorem dL_law_489 : decode cL_law 489 = .ok (.invokevirtual 74, 3) := by decide +kernel
theorem dL_law_492 : decode cL_law 492 = .ok (.iload 5, 2) := by decide +kernel
theorem dL_law_494 : decode cL_law 494 = .ok (.if_icmp .eq 5, 3) := by decide +kernel
theorem dL_law_497 : decode cL_law 497 = .ok (.iconst 0, 1) := by decide +kernel
theorem dL_law_498 : decode cL_law 498 = .ok (.ireturn, 1) := by decide +kernel
theorem dL_law_499 : decode cL_law 499 = .ok (.iload 5, 2) := by decide +kernel
theorem dL_law_501 : decode cL_law 501 = .ok (.ifCond .ne 32, 3) := by decide +kernel
theorem dL_law_504 : decode cL_law 504 = .ok (.aload_n 3, 1) := by decide +kernel
theorem dL_law_505 : decode cL_law 505 = .ok (.iconst 0, 1) := by decide +kernel
theorem dL_law_506 : decode cL_law 506 = .ok (.daload, 1) := by decide +kernel
theorem dL_law_507 : decode cL_law 507 = .ok (.dload 6, 2) := by decide +kernel
theorem dL_law_509 : decode cL_law 509 = .ok (.dcmp .l, 1) := by decide +kernel
theorem dL_law_510 : decode cL_law 510 = .ok (.ifCond .eq 23, 3) := by decide +kernel
theorem dL_law_513 : decode cL_law 513 = .ok (.aload_n 3, 1) := by decide +kernel
theorem dL_law_514 : decode cL_law 514 = .ok (.iconst 0, 1) := by decide +kernel
theorem dL_law_515 : decode cL_law 515 = .ok (.daload, 1) := by decide +kernel
theorem dL_law_516 : decode cL_law 516 = .ok (.aload_n 3, 1) := by decide +kernel
theorem dL_law_517 : decode cL_law 517 = .ok (.iconst 0, 1) := by decide +kernel
theorem dL_law_518 : decode cL_law 518 = .ok (.daload, 1) := by decide +kernel
theorem dL_law_519 : decode cL_law 519 = .ok (.dcmp .l, 1) := by decide +kernel
theorem dL_law_520 : decode cL_law 520 = .ok (.ifCond .eq 11, 3) := by decide +kernel
theorem dL_law_523 : decode cL_law 523 = .ok (.dload 6, 2) := by decide +kernel
theorem dL_law_525 : decode cL_law 525 = .ok (.dload 6, 2) := by decide +kernel
theorem dL_law_527 : decode cL_law 527 = .ok (.dcmp .l, 1) := by decide +kernel
theorem dL_law_528 : decode cL_law 528 = .ok (.ifCond .ne 5, 3) := by decide +kernel
theorem dL_law_531 : decode cL_law 531 = .ok (.iconst 0, 1) := by decide +kernel
theorem dL_law_532 : decode cL_law 532 = .ok (.ireturn, 1) := by decide +kernel
theorem dL_law_533 : decode cL_law 533 = .ok (.goto 209, 3) := by decide +kernel
theorem dL_law_536 : decode cL_law 536 = .ok (.aload_n 1, 1) := by decide +kernel
theorem dL_law_537 : decode cL_law 537 = .ok (.invokevirtual 80, 3) := by decide +kernel
theorem dL_law_540 : decode cL_law 540 = .ok (.dstore 5, 2) := by decide +kernel
theorem dL_law_542 : decode cL_law 542 = .ok (.aload_n 2, 1) := by decide +kernel
theorem dL_law_543 : decode cL_law 543 = .ok (.invokevirtual 84, 3) := by decide +kernel
theorem dL_law_546 : decode cL_law 546 = .ok (.dstore 7, 2) := by decide +kernel
theorem dL_law_548 : decode cL_law 548 = .ok (.dload 5, 2) := by decide +kernel
theorem dL_law_550 : decode cL_law 550 = .ok (.dload 7, 2) := by decide +kernel
theorem dL_law_552 : decode cL_law 552 = .ok (.dcmp .l, 1) := by decide +kernel
theorem dL_law_553 : decode cL_law 553 = .ok (.ifCond .eq 21, 3) := by decide +kernel
theorem dL_law_556 : decode cL_law 556 = .ok (.dload 5, 2) := by decide +kernel
theorem dL_law_558 : decode cL_law 558 = .ok (.dload 5, 2) := by decide +kernel
theorem dL_law_560 : decode cL_law 560 = .ok (.dcmp .l, 1) := by decide +kernel
theorem dL_law_561 : decode cL_law 561 = .ok (.ifCond .eq 11, 3) := by decide +kernel
theorem dL_law_564 : decode cL_law 564 = .ok (.dload 7, 2) := by decide +kernel
theorem dL_law_566 : decode cL_law 566 = .ok (.dload 7, 2) := by decide +kernel
theorem dL_law_568 : decode cL_law 568 = .ok (.dcmp .l, 1) := by decide +kernel
theorem dL_law_569 : decode cL_law 569 = .ok (.ifCond .ne 5, 3) := by decide +kernel
theorem dL_law_572 : decode cL_law 572 = .ok (.iconst 0, 1) := by decide +kernel
theorem dL_law_573 : decode cL_law 573 = .ok (.ireturn, 1) := by decide +kernel
theorem dL_law_574 : decode cL_law 574 = .ok (.goto 168, 3) := by decide +kernel
theorem dL_law_577 : decode cL_law 577 = .ok (.aload_n 1, 1) := by decide +kernel
theorem dL_law_578 : decode cL_law 578 = .ok (.invokevirtual 85, 3) := by decide +kernel
theorem dL_law_581 : decode cL_law 581 = .ok (.dstore 5, 2) := by decide +kernel
theorem dL_law_583 : decode cL_law 583 = .ok (.aload_n 2, 1) := by decide +kernel
theorem dL_law_584 : decode cL_law 584 = .ok (.invokevirtual 88, 3) := by decide +kernel
theorem dL_law_587 : decode cL_law 587 = .ok (.dstore 7, 2) := by decide +kernel
theorem dL_law_589 : decode cL_law 589 = .ok (.dload 5, 2) := by decide +kernel
theorem dL_law_591 : decode cL_law 591 = .ok (.dload 7, 2) := by decide +kernel
theorem dL_law_593 : decode cL_law 593 = .ok (.dcmp .l, 1) := by decide +kernel
theorem dL_law_594 : decode cL_law 594 = .ok (.ifCond .eq 21, 3) := by decide +kernel
theorem dL_law_597 : decode cL_law 597 = .ok (.dload 5, 2) := by decide +kernel
theorem dL_law_599 : decode cL_law 599 = .ok (.dload 5, 2) := by decide +kernel
theorem dL_law_601 : decode cL_law 601 = .ok (.dcmp .l, 1) := by decide +kernel
theorem dL_law_602 : decode cL_law 602 = .ok (.ifCond .eq 11, 3) := by decide +kernel
theorem dL_law_605 : decode cL_law 605 = .ok (.dload 7, 2) := by decide +kernel
theorem dL_law_607 : decode cL_law 607 = .ok (.dload 7, 2) := by decide +kernel
theorem dL_law_609 : decode cL_law 609 = .ok (.dcmp .l, 1) := by decide +kernel
theorem dL_law_610 : decode cL_law 610 = .ok (.ifCond .ne 5, 3) := by decide +kernel
theorem dL_law_613 : decode cL_law 613 = .ok (.iconst 0, 1) := by decide +kernel
theorem dL_law_614 : decode cL_law 614 = .ok (.ireturn, 1) := by decide +kernel
theorem dL_law_615 : decode cL_law 615 = .ok (.goto 127, 3) := by decide +kernel
theorem dL_law_618 : decode cL_law 618 = .ok (.aload_n 1, 1) := by decide +kernel
theorem dL_law_619 : decode cL_law 619 = .ok (.aload_n 0, 1) := by decide +kernel
theorem dL_law_620 : decode cL_law 620 = .ok (.iload 4, 2) := by decide +kernel
theorem dL_law_622 : decode cL_law 622 = .ok (.iconst 1, 1) := by decide +kernel
theorem dL_law_623 : decode cL_law 623 = .ok (.iadd, 1) := by decide +kernel
theorem dL_law_624 : decode cL_law 624 = .ok (.iaload, 1) := by decide +kernel
theorem dL_law_625 : decode cL_law 625 = .ok (.invokevirtual 89, 3) := by decide +kernel
theorem dL_law_628 : decode cL_law 628 = .ok (.aload_n 2, 1) := by decide +kernel
theorem dL_law_629 : decode cL_law 629 = .ok (.aload_n 0, 1) := by decide +kernel
theorem dL_law_630 : decode cL_law 630 = .ok (.iload 4, 2) := by decide +kernel
theorem dL_law_632 : decode cL_law 632 = .ok (.iconst 1, 1) := by decide +kernel
theorem dL_law_633 : decode cL_law 633 = .ok (.iadd, 1) := by decide +kernel
theorem dL_law_634 : decode cL_law 634 = .ok (.iaload, 1) := by decide +kernel
theorem dL_law_635 : decode cL_law 635 = .ok (.invokevirtual 93, 3) := by decide +kernel
theorem dL_law_638 : decode cL_law 638 = .ok (.if_icmp .eq 104, 3) := by decide +kernel
theorem dL_law_641 : decode cL_law 641 = .ok (.iconst 0, 1) := by decide +kernel
theorem dL_law_642 : decode cL_law 642 = .ok (.ireturn, 1) := by decide +kernel
theorem dL_law_643 : decode cL_law 643 = .ok (.aload_n 1, 1) := by decide +kernel
theorem dL_law_644 : decode cL_law 644 = .ok (.aload_n 0, 1) := by decide +kernel
theorem dL_law_645 : decode cL_law 645 = .ok (.iload 4, 2) := by decide +kernel
theorem dL_law_647 : decode cL_law 647 = .ok (.iconst 1, 1) := by decide +kernel
theorem dL_law_648 : decode cL_law 648 = .ok (.iadd, 1) := by decide +kernel
theorem dL_law_649 : decode cL_law 649 = .ok (.iaload, 1) := by decide +kernel
theorem dL_law_650 : decode cL_law 650 = .ok (.aload_n 0, 1) := by decide +kernel
theorem dL_law_651 : decode cL_law 651 = .ok (.iload 4, 2) := by decide +kernel
theorem dL_law_653 : decode cL_law 653 = .ok (.iconst 2, 1) := by decide +kernel
theorem dL_law_654 : decode cL_law 654 = .ok (.iadd, 1) := by decide +kernel
theorem dL_law_655 : decode cL_law 655 = .ok (.iaload, 1) := by decide +kernel
theorem dL_law_656 : decode cL_law 656 = .ok (.aload_n 3, 1) := by decide +kernel
theorem dL_law_657 : decode cL_law 657 = .ok (.invokestatic 94, 3) := by decide +kernel
theorem dL_law_660 : decode cL_law 660 = .ok (.istore 5, 2) := by decide +kernel
theorem dL_law_662 : decode cL_law 662 = .ok (.aload_n 2, 1) := by decide +kernel
theorem dL_law_663 : decode cL_law 663 = .ok (.aload_n 0, 1) := by decide +kernel
theorem dL_law_664 : decode cL_law 664 = .ok (.iload 4, 2) := by decide +kernel
theorem dL_law_666 : decode cL_law 666 = .ok (.iconst 1, 1) := by decide +kernel
theorem dL_law_667 : decode cL_law 667 = .ok (.iadd, 1) := by decide +kernel
theorem dL_law_668 : decode cL_law 668 = .ok (.iaload, 1) := by decide +kernel
theorem dL_law_669 : decode cL_law 669 = .ok (.aload_n 0, 1) := by decide +kernel
theorem dL_law_670 : decode cL_law 670 = .ok (.iload 4, 2) := by decide +kernel
theorem dL_law_672 : decode cL_law 672 = .ok (.iconst 2, 1) := by decide +kernel
theorem dL_law_673 : decode cL_law 673 = .ok (.iadd, 1) := by decide +kernel
theorem dL_law_674 : decode cL_law 674 = .ok (.iaload, 1) := by decide +kernel
theorem dL_law_675 : decode cL_law 675 = .ok (.invokevirtual 96, 3) := by decide +kernel
theorem dL_law_678 : decode cL_law 678 = .ok (.dstore 6, 2) := by decide +kernel
theorem dL_law_680 : decode cL_law 680 = .ok (.aload_n 2, 1) := by decide +kernel
theorem dL_law_681 : decode cL_law 681 = .ok (.invokevirtual 74, 3) := by decide +kernel
theorem dL_law_684 : decode cL_law 684 = .ok (.iload 5, 2) := by decide +kernel
theorem dL_law_686 : decode cL_law 686 = .ok (.if_icmp .eq 5, 3) := by decide +kernel
theorem dL_law_689 : decode cL_law 689 = .ok (.iconst 0, 1) := by decide +kernel
theorem dL_law_690 : decode cL_law 690 = .ok (.ireturn, 1) := by decide +kernel
theorem dL_law_691 : decode cL_law 691 = .ok (.iload 5, 2) := by decide +kernel
theorem dL_law_693 : decode cL_law 693 = .ok (.ifCond .ne 32, 3) := by decide +kernel
theorem dL_law_696 : decode cL_law 696 = .ok (.aload_n 3, 1) := by decide +kernel
theorem dL_law_697 : decode cL_law 697 = .ok (.iconst 0, 1) := by decide +kernel
theorem dL_law_698 : decode cL_law 698 = .ok (.daload, 1) := by decide +kernel
theorem dL_law_699 : decode cL_law 699 = .ok (.dload 6, 2) := by decide +kernel
theorem dL_law_701 : decode cL_law 701 = .ok (.dcmp .l, 1) := by decide +kernel
theorem dL_law_702 : decode cL_law 702 = .ok (.ifCond .eq 23, 3) := by decide +kernel
theorem dL_law_705 : decode cL_law 705 = .ok (.aload_n 3, 1) := by decide +kernel
theorem dL_law_706 : decode cL_law 706 = .ok (.iconst 0, 1) := by decide +kernel
theorem dL_law_707 : decode cL_law 707 = .ok (.daload, 1) := by decide +kernel
theorem dL_law_708 : decode cL_law 708 = .ok (.aload_n 3, 1) := by decide +kernel
theorem dL_law_709 : decode cL_law 709 = .ok (.iconst 0, 1) := by decide +kernel
theorem dL_law_710 : decode cL_law 710 = .ok (.daload, 1) := by decide +kernel
theorem dL_law_711 : decode cL_law 711 = .ok (.dcmp .l, 1) := by decide +kernel
theorem dL_law_712 : decode cL_law 712 = .ok (.ifCond .eq 11, 3) := by decide +kernel
theorem dL_law_715 : decode cL_law 715 = .ok (.dload 6, 2) := by decide +kernel
theorem dL_law_717 : decode cL_law 717 = .ok (.dload 6, 2) := by decide +kernel
theorem dL_law_719 : decode cL_law 719 = .ok (.dcmp .l, 1) := by decide +kernel
theorem dL_law_720 : decode cL_law 720 = .ok (.ifCond .ne 5, 3) := by decide +kernel
theorem dL_law_723 : decode cL_law 723 = .ok (.iconst 0, 1) := by decide +kernel
theorem dL_law_724 : decode cL_law 724 = .ok (.ireturn, 1) := by decide +kernel
theorem dL_law_725 : decode cL_law 725 = .ok (.goto 17, 3) := by decide +kernel
theorem dL_law_728 : decode cL_law 728 = .ok (.aload_n 1, 1) := by decide +kernel
theorem dL_law_729 : decode cL_law 729 = .ok (.invokevirtual 97, 3) := by decide +kernel
theorem dL_law_732 : decode cL_law 732 = .ok (.aload_n 2, 1) := by decide +kernel
theorem dL_law_733 : decode cL_law 733 = .ok (.invokevirtual 101, 3) := by decide +kernel
theorem dL_law_736 : decode cL_law 736 = .ok (.lcmp, 1) := by decide +kernel
theorem dL_law_737 : decode cL_law 737 = .ok (.ifCond .eq 5, 3) := by decide +kernel
theorem dL_law_740 : decode cL_law 740 = .ok (.iconst 0, 1) := by decide +kernel
theorem dL_law_741 : decode cL_law 741 = .ok (.ireturn, 1) := by decide +kernel
theorem dL_law_742 : decode cL_law 742 = .ok (.iinc 4 4, 3) := by decide +kernel
theorem dL_law_745 : decode cL_law 745 = .ok (.goto (-722), 3) := by decide +kernel
theorem dL_law_748 : decode cL_law 748 = .ok (.iconst 1, 1) := by decide +kernel
theorem dL_law_749 : decode cL_law 749 = .ok (.ireturn, 1) := by decide +kernel
end
section
/-! doubles: finite, with a small exponent -/
def dB (n : Nat) (x : UInt64) : Prop := ∃ (s : Bool) (c : Nat) (q : Int), FP.Core.val64 x = .fin s c q ∧ q + 52 ≤ (n : Int)
theorem dB_mono {a b : Nat} {x : UInt64} (h : dB a x) (hab : a ≤ b) : dB b x := by
  obtain ⟨s, c, q, h1, h2⟩ := h
  exact ⟨s, c, q, h1, by omega⟩
theorem fp_round {s : Bool} {A k : Nat} {e N : Int} (hA : A < 2 ^ k) (h : (k : Int) + e ≤ N) (hN : -1021 ≤ N) (hN2 : N ≤ 1023) :
    ∃ (c : Nat) (q : Int), FP.Core.roundRatio FP.Core.b64 s A 1 e = .fin s c q ∧ q + 52 ≤ N := by
  have hq1 : FP.Core.b64.qmin = -1074 := by decide +kernel
  have hq2 : FP.Core.b64.qmax = 971 := by decide +kernel
  have hp : (FP.Core.b64.p : Int) = 53 := by decide +kernel
  unfold FP.Core.roundRatio
  by_cases h0 : A = 0
  · rw [if_pos h0]
    exact ⟨0, _, rfl, by rw [hq1]; omega⟩
  · rw [if_neg h0]
    have hl : FP.Core.leading A 1 ≤ (A.log2 : Int) := by
      unfold FP.Core.leading
      have h1 : Nat.log2 1 = 0 := by decide +kernel
      dsimp only
      rw [h1]
      split <;> omega
    have hk : A.log2 < k := (Nat.log2_lt h0).mpr hA
    have hqu : FP.Core.quantum FP.Core.b64 A 1 e + 1 + 52 ≤ N := by
      unfold FP.Core.quantum
      rw [hq1, hp]
      omega
    unfold FP.Core.roundAt FP.Core.settle FP.Core.bound
    rw [hq2]
    split
    · rw [if_pos (by omega)]
      exact ⟨_, _, rfl, by omega⟩
    · rw [if_pos (by omega)]
      exact ⟨_, _, rfl, by omega⟩
theorem dB_mul {a b : Nat} {x y : UInt64} (hx : dB a x) (hy : dB b y) (h : a + b + 2 ≤ 1023) : dB (a + b + 2) (FP.dmul x y) := by
  obtain ⟨s, c, q, h1, h2⟩ := hx
  obtain ⟨t, d, r, h3, h4⟩ := hy
  have f1 := FP.Core.val64_fits x
  have f2 := FP.Core.val64_fits y
  rw [h1] at f1
  rw [h3] at f2
  have hc : c < 2 ^ 53 := f1.1
  have hd : d < 2 ^ 53 := f2.1
  have hcd : c * d < 2 ^ 106 := by
    have h5 : c * d < 2 ^ 53 * 2 ^ 53 := Nat.mul_lt_mul'' hc hd
    rw [← Nat.pow_add] at h5
    exact h5
  obtain ⟨c', q', h5, h6⟩ := fp_round (s := (s != t)) (e := q + r) (N := ((a + b + 2 : Nat) : Int)) hcd (by omega) (by omega) (by omega)
  refine ⟨_, c', q', ?_, h6⟩
  show FP.Core.val64 (FP.Core.dmul x y) = _
  rw [FP.Core.val64_dmul, h1, h3]
  exact h5
theorem dB_add {a : Nat} {x y : UInt64} (hx : dB a x) (hy : dB a y) (h : a + 2 ≤ 1023) : dB (a + 2) (FP.dadd x y) := by
  obtain ⟨s, c, q, h1, h2⟩ := hx
  obtain ⟨t, d, r, h3, h4⟩ := hy
  have f1 := FP.Core.val64_fits x
  have f2 := FP.Core.val64_fits y
  rw [h1] at f1
  rw [h3] at f2
  have hc : c < 2 ^ 53 := f1.1
  have hd : d < 2 ^ 53 := f2.1
  have hsum : (FP.Core.sumUnits s c q t d r (min q r)).natAbs < 2 ^ (54 + (max q r - min q r).toNat) := by
    unfold FP.Core.sumUnits FP.Core.inUnits
    have e1 : (q - min q r).toNat ≤ (max q r - min q r).toNat := by omega
    have e2 : (r - min q r).toNat ≤ (max q r - min q r).toNat := by omega
    generalize (max q r - min q r).toNat = w at e1 e2 ⊢
    generalize (q - min q r).toNat = u at e1 ⊢
    generalize (r - min q r).toNat = v at e2 ⊢
    have b1 : c * 2 ^ u < 2 ^ 53 * 2 ^ w := Nat.lt_of_lt_of_le (Nat.mul_lt_mul_of_pos_right hc (Nat.two_pow_pos u)) (Nat.mul_le_mul_left _ (Nat.pow_le_pow_right (by decide) e1))
    have b2 : d * 2 ^ v < 2 ^ 53 * 2 ^ w := Nat.lt_of_lt_of_le (Nat.mul_lt_mul_of_pos_right hd (Nat.two_pow_pos v)) (Nat.mul_le_mul_left _ (Nat.pow_le_pow_right (by decide) e2))
    have b3 : 2 ^ (54 + w) = 2 ^ 53 * 2 ^ w + 2 ^ 53 * 2 ^ w := by
      rw [Nat.pow_add, show (2 : Nat) ^ 54 = 2 ^ 53 + 2 ^ 53 from by decide +kernel, Nat.add_mul]
    have b4 : (FP.Core.signed s (c * 2 ^ u) + FP.Core.signed t (d * 2 ^ v)).natAbs ≤ (FP.Core.signed s (c * 2 ^ u)).natAbs + (FP.Core.signed t (d * 2 ^ v)).natAbs := Int.natAbs_add_le _ _
    rw [FP.Core.natAbs_signed, FP.Core.natAbs_signed] at b4
    omega
  obtain ⟨c', q', h5, h6⟩ := fp_round (s := FP.Core.sumSign s t (FP.Core.sumUnits s c q t d r (min q r))) (e := min q r) (N := ((a + 2 : Nat) : Int)) hsum (by omega) (by omega) (by omega)
  refine ⟨_, c', q', ?_, h6⟩
  show FP.Core.val64 (FP.Core.dadd x y) = _
  rw [FP.Core.val64_dadd, h1, h3]
  exact h5
theorem dB_i2d (k : Int32) : dB 34 (FP.i2d k) := by
  have hk : k.toInt.natAbs < 2 ^ 32 := by
    have h1 := k.toInt_lt
    have h2 := k.le_toInt
    omega
  obtain ⟨c', q', h5, h6⟩ := fp_round (s := decide (k.toInt < 0)) (e := 0) (N := 34) hk (by omega) (by omega) (by omega)
  refine ⟨_, c', q', ?_, h6⟩
  show FP.Core.val64 (FP.Core.i2d k) = _
  rw [FP.Core.val64_i2d]
  exact h5
/-- no NaN: in bits -/
theorem fp_not_nan {x : UInt64} (h : FP.Core.val64 x ≠ .nan) : vf_n64 x := by
  unfold vf_n64
  rcases Nat.lt_or_ge 0x7ff0000000000000 (x &&& 0x7fffffffffffffff).toNat with h1 | h1
  · exfalso
    apply h
    have h2 : (x &&& 0x7fffffffffffffff).toNat = x.toNat % 2 ^ 63 := by
      rw [UInt64.toNat_and]
      exact Nat.and_two_pow_sub_one_eq_mod x.toNat 63
    rw [h2] at h1
    have hx : x.toNat < 2 ^ 64 := x.toNat_lt
    have ht : FP.Core.b64.tails = 2 ^ 52 := by decide +kernel
    have he : FP.Core.b64.exps = 2 ^ 11 := by decide +kernel
    unfold FP.Core.val64 FP.Core.decode FP.Core.fieldE FP.Core.fieldT
    rw [ht, he, if_pos (by omega), if_neg (by omega)]
  · exact UInt64.le_iff_toNat_le.mpr h1
theorem dB_n {a : Nat} {x : UInt64} (h : dB a x) : vf_n64 x := by
  obtain ⟨s, c, q, h1, -⟩ := h
  exact fp_not_nan (by rw [h1]; intro z; cases z)
theorem dB_self {a : Nat} {x : UInt64} (h : dB a x) : FP.dcmp x x = some .eq := by
  obtain ⟨s, c, q, h1, -⟩ := h
  exact FP.Core.dcmp_self (by rw [h1]; intro z; cases z)
theorem fp_rr_nn (f : FP.Core.Fmt) (s : Bool) (A B : Nat) (e : Int) : FP.Core.roundRatio f s A B e ≠ .nan := by
  unfold FP.Core.roundRatio
  split
  · intro z; cases z
  · unfold FP.Core.roundAt FP.Core.settle FP.Core.bound
    split <;> split <;> (intro z; cases z)
/-- a finite over a finite that isn't 0 -/
theorem dB_div {a b : Nat} {x y : UInt64} (hx : dB a x) (hy : dB b y) (h0 : FP.dcmp y 0 ≠ some .eq) : FP.Core.val64 (FP.ddiv x y) ≠ .nan := by
  obtain ⟨s, c, q, h1, -⟩ := hx
  obtain ⟨t, d, r, h3, -⟩ := hy
  show FP.Core.val64 (FP.Core.ddiv x y) ≠ _
  rw [FP.Core.val64_ddiv, h1, h3]
  have hd : d ≠ 0 := by
    intro z
    apply h0
    show FP.Core.order (FP.Core.val64 y) (FP.Core.val64 0) = _
    rw [h3, z, show FP.Core.val64 0 = .fin false 0 FP.Core.b64.qmin from FP.Core.val64_dconst0]
    simp only [FP.Core.order, FP.Core.inUnits, Nat.zero_mul, FP.Core.signed_zero]
    rfl
  unfold FP.Core.quotient
  rw [if_neg hd]
  exact fp_rr_nn _ _ _ _ _
theorem dB_zero : dB 0 0 := ⟨false, 0, FP.Core.b64.qmin, FP.Core.val64_dconst0, by decide +kernel⟩
theorem dB_one : dB 0 0x3ff0000000000000 := ⟨false, 2 ^ 52, -52, FP.Core.val64_dconst1, by decide⟩
theorem dB_eighth : dB 0 0x3fc0000000000000 := ⟨false, 2 ^ 52, -55, by decide +kernel, by decide⟩
/-- a weight, as the machine's two comparisons ask it -/
def wOK (w : UInt64) : Prop := ¬ (Op.cmpValue (FP.dcmp w 0) .l < 0) ∧ ¬ (0 < Op.cmpValue (FP.dcmp w 0x3ff0000000000000) .g)
theorem wOK_dB {w : UInt64} (h : wOK w) : dB 0 w := by
  obtain ⟨h1, h2⟩ := h
  have f := FP.Core.val64_fits w
  have e0 : FP.dcmp w 0 = FP.Core.order (FP.Core.val64 w) (.fin false 0 FP.Core.b64.qmin) := by
    show FP.Core.order (FP.Core.val64 w) (FP.Core.val64 0) = _
    rw [show FP.Core.val64 0 = .fin false 0 FP.Core.b64.qmin from FP.Core.val64_dconst0]
  have e1 : FP.dcmp w 0x3ff0000000000000 = FP.Core.order (FP.Core.val64 w) (.fin false (2 ^ 52) (-52)) := by
    show FP.Core.order (FP.Core.val64 w) (FP.Core.val64 0x3ff0000000000000) = _
    rw [show FP.Core.val64 0x3ff0000000000000 = .fin false (2 ^ 52) (-52) from FP.Core.val64_dconst1]
  rw [e0] at h1
  rw [e1] at h2
  cases hv : FP.Core.val64 w with
  | nan => rw [hv] at h1; exact absurd (by decide) h1
  | inf s =>
    rw [hv] at h1 h2
    cases s
    · exact absurd (by decide) h2
    · exact absurd (by decide) h1
  | fin s c q =>
    rw [hv] at h1 h2 f
    refine ⟨s, c, q, hv, ?_⟩
    rcases Int.lt_or_ge (-52) q with hq | hq
    · exfalso
      have hc : 2 ^ 52 ≤ c := by
        rcases f.2.2.2 with h | h
        · rw [show FP.Core.b64.qmin = -1074 from by decide +kernel] at h; omega
        · exact h
      cases s
      · apply h2
        have h3 : FP.Core.order (.fin false c q) (.fin false (2 ^ 52) (-52)) = some .gt := by
          simp only [FP.Core.order, FP.Core.inUnits, FP.Core.signed, Bool.false_eq_true, if_false]
          have hm : min q (-52) = -52 := by omega
          rw [hm, show ((-52 : Int) - (-52)).toNat = 0 from rfl, Nat.pow_zero, Nat.mul_one]
          have hpw : 2 ≤ 2 ^ (q - -52).toNat := by
            have : 2 ^ 1 ≤ 2 ^ (q - -52).toNat := Nat.pow_le_pow_right (by decide) (by omega)
            exact this
          have hbig : 2 ^ 52 < c * 2 ^ (q - -52).toNat := by
            have := Nat.mul_le_mul hc hpw
            omega
          rw [show compare ((c * 2 ^ (q - -52).toNat : Nat) : Int) ((2 ^ 52 : Nat) : Int) = .gt from by
            rw [Int.compare_eq_gt]; exact Int.ofNat_lt.mpr hbig]
        rw [h3]
        decide
      · apply h1
        have h3 : FP.Core.order (.fin true c q) (.fin false 0 FP.Core.b64.qmin) = some .lt := by
          simp only [FP.Core.order, FP.Core.inUnits, FP.Core.signed, if_true, Bool.false_eq_true, if_false, Nat.zero_mul]
          have hpos : 0 < c * 2 ^ (q - min q FP.Core.b64.qmin).toNat := Nat.mul_pos (by omega) (Nat.two_pow_pos _)
          rw [show compare (-((c * 2 ^ (q - min q FP.Core.b64.qmin).toNat : Nat) : Int)) ((0 : Nat) : Int) = .lt from by
            rw [Int.compare_eq_lt]; omega]
        rw [h3]
        decide
    · omega
end
